theorem b_X12_bits_0 {l : Launch} {G : jG} {μ : jM} {φ : Int32 → jM → Prop} {x0 : Int32} (hG : gMM G) (hP : gNN μ) 
    (k0 : J l mX12_bits (jZ0 0 G (pI φ)) G 0 0 4 [.int x0, .int 0, .int 0] [] μ) :
    J l mX12_bits (jZ0 0 G (pI φ)) G 0 0 0 [.int x0, .null, .null] [] μ := by
  refine j_iconst 0 dX12_bits_0 rfl (by decide) ?_
  refine j_istore_n (ls' := [.int x0, .int 0, .null]) dX12_bits_1 rfl rfl (Nat.le_of_ble_eq_true rfl) rfl ?_
  refine j_iconst 0 dX12_bits_2 rfl (by decide) ?_
  refine j_istore_n (ls' := [.int x0, .int 0, .int 0]) dX12_bits_3 rfl rfl (Nat.le_of_ble_eq_true rfl) rfl ?_
  exact k0 
theorem b_X12_bits_4 {l : Launch} {G : jG} {μ : jM} {φ : Int32 → jM → Prop} {x0 x1 x2 : Int32} (hG : gMM G) (hP : gNN μ) 
    (k0 : (12 ≤ (x2 : Int32)) → φ x1 μ) 
    (k1 : (¬ (12 ≤ (x2 : Int32))) → J l mX12_bits (jZ0 0 G (pI φ)) G 0 0 4 [.int x0, .int (x1 + ((x0 >>> (x2 &&& 31)) &&& 1)), .int (x2 + 1)] [] μ) :
    J l mX12_bits (jZ0 0 G (pI φ)) G 0 0 4 [.int x0, .int x1, .int x2] [] μ := by
  refine j_iload_n dX12_bits_4 rfl rfl ?_
  refine j_bipush 12 dX12_bits_5 rfl (by decide) ?_
  refine j_icmp_ge 24 dX12_bits_7 rfl (by decide) (fun c0 => ?_) (fun c0 => ?_)
  · skip
    refine j_iload_n dX12_bits_24 rfl rfl ?_
    exact j_iret dX12_bits_25 rfl (k0 c0)
  · skip
    refine j_iload_n dX12_bits_10 rfl rfl ?_
    refine j_iload_n dX12_bits_11 rfl rfl ?_
    refine j_iload_n dX12_bits_12 rfl rfl ?_
    refine j_ishr dX12_bits_13 rfl ?_
    refine j_iconst 1 dX12_bits_14 rfl (by decide) ?_
    refine j_iand dX12_bits_15 rfl ?_
    refine j_iadd dX12_bits_16 rfl ?_
    refine j_istore_n (ls' := [.int x0, .int (x1 + ((x0 >>> (x2 &&& 31)) &&& 1)), .int x2]) dX12_bits_17 rfl rfl (Nat.le_of_ble_eq_true rfl) rfl ?_
    refine j_iinc (x2 + 1) (ls' := [.int x0, .int (x1 + ((x0 >>> (x2 &&& 31)) &&& 1)), .int (x2 + 1)]) dX12_bits_18 rfl rfl rfl (Nat.le_of_ble_eq_true rfl) rfl ?_
    refine j_goto 4 dX12_bits_21 (by decide) ?_
    exact k1 c0
theorem b_X12_isRoad_0 {l : Launch} {G : jG} {μ : jM} {φ : Int32 → jM → Prop} {x1 : Int32} {ψ0 : Int32 → jM → Prop} (hG : gMM G) (hP : gNN μ) 
    (o0 : vp_in (μ.1 112 18) 2) 
    (e0 : jC0 l mX12_in 0 G [.int x1, .int 0, .int ((μ.1 123 (Int32.toNatClampNeg (μ.1 112 18))) - 1)] μ (pI ψ0)) 
    (k0 : ∀ v μ', ψ0 v μ' → J l mX12_isRoad (jZ0 1 G (pI φ)) G 0 0 16 [.null, .null] [.int v] μ') :
    J l mX12_isRoad (jZ0 1 G (pI φ)) G 0 0 0 [.ref 112, .int x1] [] μ := by
  refine j_iload_n dX12_isRoad_0 rfl rfl ?_
  refine j_iconst 0 dX12_isRoad_1 rfl (by decide) ?_
  refine j_aload_n dX12_isRoad_2 rfl rfl ?_
  refine j_getR (ci := 12) (N := 80) (f := 24) (T := TX12) 123 dX12_isRoad_3 rfl (hG 112 (17, 80) rfl) rfl (by decide) fl_X12_49 rfl (hP 112 24 123 rfl) ?_
  refine j_aload_n dX12_isRoad_6 rfl rfl ?_
  refine j_getI (ci := 12) (N := 80) (f := 18) (T := TX12) dX12_isRoad_7 rfl (hG 112 (17, 80) rfl) rfl (by decide) fl_X12_263 rfl ?_
  refine j_iald' (j := (Int32.toNatClampNeg (μ.1 112 18))) dX12_isRoad_10 rfl (hG 123 (0, 2) rfl) o0 rfl ?_
  refine j_iconst 1 dX12_isRoad_11 rfl (by decide) ?_
  refine j_isub dX12_isRoad_12 rfl ?_
  refine j_cS (as := [.int x1, .int 0, .int ((μ.1 123 (Int32.toNatClampNeg (μ.1 112 18))) - 1)]) (rest := []) dX12_isRoad_13 rfl vw_X12_349 ⟨Nat.le_of_ble_eq_true rfl, Nat.le_of_ble_eq_true rfl⟩ rfl rfl (fun _ _ => Nat.le_of_ble_eq_true rfl) (e0 ) (fun r μ' hr => ?_)
  obtain ⟨v, rfl, hr⟩ := hr
  refine j_forget (ls' := [.null, .null]) ⟨Or.inl rfl, Or.inl rfl, trivial⟩ ?_
  exact k0  v μ' hr
theorem b_X12_isRoad_16 {l : Launch} {G : jG} {μ : jM} {φ : Int32 → jM → Prop} {z0 : Int32} (hG : gMM G) (hP : gNN μ) 
    (k0 : φ z0 μ) 
    (o0 : z0 = (0 : Int32) ∨ z0 = (1 : Int32)) :
    J l mX12_isRoad (jZ0 1 G (pI φ)) G 0 0 16 [.null, .null] [.int z0] μ := by
  exact j_zret dX12_isRoad_16 rfl o0 (k0 )
theorem b_X12_isGhost_0 {l : Launch} {G : jG} {μ : jM} {φ : Int32 → jM → Prop} {x1 : Int32} {ψ0 : Int32 → jM → Prop} (hG : gMM G) (hP : gNN μ) 
    (o0 : vp_in (μ.1 112 18) 2) 
    (e0 : jC0 l mX12_in 0 G [.int x1, .int 0, .int ((μ.1 129 (Int32.toNatClampNeg (μ.1 112 18))) - 1)] μ (pI ψ0)) 
    (k0 : ∀ v μ', ψ0 v μ' → J l mX12_isGhost (jZ0 1 G (pI φ)) G 0 0 16 [.null, .null] [.int v] μ') :
    J l mX12_isGhost (jZ0 1 G (pI φ)) G 0 0 0 [.ref 112, .int x1] [] μ := by
  refine j_iload_n dX12_isGhost_0 rfl rfl ?_
  refine j_iconst 0 dX12_isGhost_1 rfl (by decide) ?_
  refine j_aload_n dX12_isGhost_2 rfl rfl ?_
  refine j_getR (ci := 12) (N := 80) (f := 30) (T := TX12) 129 dX12_isGhost_3 rfl (hG 112 (17, 80) rfl) rfl (by decide) fl_X12_68 rfl (hP 112 30 129 rfl) ?_
  refine j_aload_n dX12_isGhost_6 rfl rfl ?_
  refine j_getI (ci := 12) (N := 80) (f := 18) (T := TX12) dX12_isGhost_7 rfl (hG 112 (17, 80) rfl) rfl (by decide) fl_X12_263 rfl ?_
  refine j_iald' (j := (Int32.toNatClampNeg (μ.1 112 18))) dX12_isGhost_10 rfl (hG 129 (0, 2) rfl) o0 rfl ?_
  refine j_iconst 1 dX12_isGhost_11 rfl (by decide) ?_
  refine j_isub dX12_isGhost_12 rfl ?_
  refine j_cS (as := [.int x1, .int 0, .int ((μ.1 129 (Int32.toNatClampNeg (μ.1 112 18))) - 1)]) (rest := []) dX12_isGhost_13 rfl vw_X12_349 ⟨Nat.le_of_ble_eq_true rfl, Nat.le_of_ble_eq_true rfl⟩ rfl rfl (fun _ _ => Nat.le_of_ble_eq_true rfl) (e0 ) (fun r μ' hr => ?_)
  obtain ⟨v, rfl, hr⟩ := hr
  refine j_forget (ls' := [.null, .null]) ⟨Or.inl rfl, Or.inl rfl, trivial⟩ ?_
  exact k0  v μ' hr
theorem b_X12_isGhost_16 {l : Launch} {G : jG} {μ : jM} {φ : Int32 → jM → Prop} {z0 : Int32} (hG : gMM G) (hP : gNN μ) 
    (k0 : φ z0 μ) 
    (o0 : z0 = (0 : Int32) ∨ z0 = (1 : Int32)) :
    J l mX12_isGhost (jZ0 1 G (pI φ)) G 0 0 16 [.null, .null] [.int z0] μ := by
  exact j_zret dX12_isGhost_16 rfl o0 (k0 )
theorem b_X12_plainly_0 {l : Launch} {G : jG} {μ : jM} {φ : jM → Prop} (hG : gMM G) (hP : gNN μ) 
    (o0 : vp_in (μ.1 112 18) 2) 
    (k0 : φ (wI (wI (wI μ 112 58 (μ.1 138 (Int32.toNatClampNeg (μ.1 112 18)))) 112 59 127) 112 60 (-1))) :
    J l mX12_plainly (jZ0 0 G (pV φ)) G 0 0 0 [.ref 112] [] μ := by
  refine j_aload_n dX12_plainly_0 rfl rfl ?_
  refine j_aload_n dX12_plainly_1 rfl rfl ?_
  refine j_getR (ci := 12) (N := 80) (f := 39) (T := TX12) 138 dX12_plainly_2 rfl (hG 112 (17, 80) rfl) rfl (by decide) fl_X12_95 rfl (hP 112 39 138 rfl) ?_
  refine j_aload_n dX12_plainly_5 rfl rfl ?_
  refine j_getI (ci := 12) (N := 80) (f := 18) (T := TX12) dX12_plainly_6 rfl (hG 112 (17, 80) rfl) rfl (by decide) fl_X12_263 rfl ?_
  refine j_iald' (j := (Int32.toNatClampNeg (μ.1 112 18))) dX12_plainly_9 rfl (hG 138 (0, 2) rfl) o0 rfl ?_
  refine j_putI (ci := 12) (N := 80) (f := 58) (T := TX12) dX12_plainly_10 rfl (hG 112 (17, 80) rfl) rfl (by decide) fl_X12_353 rfl rfl ?_
  refine j_aload_n dX12_plainly_13 rfl rfl ?_
  refine j_bipush 127 dX12_plainly_14 rfl (by decide) ?_
  refine j_putI (ci := 12) (N := 80) (f := 59) (T := TX12) dX12_plainly_16 rfl (hG 112 (17, 80) rfl) rfl (by decide) fl_X12_356 rfl rfl ?_
  refine j_aload_n dX12_plainly_19 rfl rfl ?_
  refine j_iconst (-1) dX12_plainly_20 rfl (by decide) ?_
  refine j_putI (ci := 12) (N := 80) (f := 60) (T := TX12) dX12_plainly_21 rfl (hG 112 (17, 80) rfl) rfl (by decide) fl_X12_359 rfl rfl ?_
  exact j_vret dX12_plainly_24 rfl (k0 )
theorem b_X12_begins_0 {l : Launch} {G : jG} {μ : jM} {φ : jM → Prop} (hG : gMM G) (hP : gNN μ) 
    (k0 : J l mX12_begins (jZ0 1 G (pV φ)) G 0 0 2 [.ref 112, .int 0] [] μ) :
    J l mX12_begins (jZ0 1 G (pV φ)) G 0 0 0 [.ref 112, .null] [] μ := by
  refine j_iconst 0 dX12_begins_0 rfl (by decide) ?_
  refine j_istore_n (ls' := [.ref 112, .int 0]) dX12_begins_1 rfl rfl (Nat.le_of_ble_eq_true rfl) rfl ?_
  exact k0 
theorem b_X12_begins_2 {l : Launch} {G : jG} {μ : jM} {φ : jM → Prop} {x1 : Int32} {ψ0 : jM → Prop} (hG : gMM G) (hP : gNN μ) 
    (o0 : (68 ≤ (x1 : Int32)) → vp_in (μ.1 112 18) 2) 
    (e0 : (68 ≤ (x1 : Int32)) → jC0 l mX12_plainly 0 G [.ref 112] (wI (wI μ 152 64 (μ.1 128 (Int32.toNatClampNeg (μ.1 112 18)))) 152 65 1) (pV ψ0)) 
    (k0 : (68 ≤ (x1 : Int32)) → ∀ μ', ψ0 μ' → J l mX12_begins (jZ0 1 G (pV φ)) G 0 0 49 [.null, .null] [] μ') 
    (o1 : (¬ (68 ≤ (x1 : Int32))) → vp_in x1 68) 
    (k1 : (¬ (68 ≤ (x1 : Int32))) → J l mX12_begins (jZ0 1 G (pV φ)) G 0 0 2 [.ref 112, .int (x1 + 1)] [] (wI μ 152 (Int32.toNatClampNeg x1) 0)) :
    J l mX12_begins (jZ0 1 G (pV φ)) G 0 0 2 [.ref 112, .int x1] [] μ := by
  refine j_iload_n dX12_begins_2 rfl rfl ?_
  refine j_bipush 68 dX12_begins_3 rfl (by decide) ?_
  refine j_icmp_ge 21 dX12_begins_5 rfl (by decide) (fun c0 => ?_) (fun c0 => ?_)
  · skip
    refine j_aload_n dX12_begins_21 rfl rfl ?_
    refine j_getR (ci := 12) (N := 80) (f := 57) (T := TX12) 152 dX12_begins_22 rfl (hG 112 (17, 80) rfl) rfl (by decide) fl_X12_137 rfl (hP 112 57 152 rfl) ?_
    refine j_bipush 64 dX12_begins_25 rfl (by decide) ?_
    refine j_aload_n dX12_begins_27 rfl rfl ?_
    refine j_getR (ci := 12) (N := 80) (f := 29) (T := TX12) 128 dX12_begins_28 rfl (hG 112 (17, 80) rfl) rfl (by decide) fl_X12_65 rfl (hP 112 29 128 rfl) ?_
    refine j_aload_n dX12_begins_31 rfl rfl ?_
    refine j_getI (ci := 12) (N := 80) (f := 18) (T := TX12) dX12_begins_32 rfl (hG 112 (17, 80) rfl) rfl (by decide) fl_X12_263 rfl ?_
    refine j_iald' (j := (Int32.toNatClampNeg (μ.1 112 18))) dX12_begins_35 rfl (hG 128 (0, 2) rfl) (o0 c0) rfl ?_
    refine j_iast' (j := 64) dX12_begins_36 rfl (hG 152 (0, 68) rfl) (vpK (by decide)) (by decide) ?_
    refine j_aload_n dX12_begins_37 rfl rfl ?_
    refine j_getR (ci := 12) (N := 80) (f := 57) (T := TX12) 152 dX12_begins_38 rfl (hG 112 (17, 80) rfl) rfl (by decide) fl_X12_137 rfl (hP 112 57 152 rfl) ?_
    refine j_bipush 65 dX12_begins_41 rfl (by decide) ?_
    refine j_iconst 1 dX12_begins_43 rfl (by decide) ?_
    refine j_iast' (j := 65) dX12_begins_44 rfl (hG 152 (0, 68) rfl) (vpK (by decide)) (by decide) ?_
    refine j_aload_n dX12_begins_45 rfl rfl ?_
    refine j_cV (as := []) (rest := []) dX12_begins_46 rfl vw_X12_362 (hG 112 (17, 80) rfl) rfl ⟨Nat.le_of_ble_eq_true rfl, Nat.le_of_ble_eq_true rfl⟩ rfl rfl (fun _ _ => Nat.le_of_ble_eq_true rfl) (e0 c0) (fun r μ' hr => ?_)
    obtain ⟨rfl, hr⟩ := hr
    refine j_forget (ls' := [.null, .null]) ⟨Or.inl rfl, Or.inl rfl, trivial⟩ ?_
    exact k0 c0 μ' hr
  · skip
    refine j_aload_n dX12_begins_8 rfl rfl ?_
    refine j_getR (ci := 12) (N := 80) (f := 57) (T := TX12) 152 dX12_begins_9 rfl (hG 112 (17, 80) rfl) rfl (by decide) fl_X12_137 rfl (hP 112 57 152 rfl) ?_
    refine j_iload_n dX12_begins_12 rfl rfl ?_
    refine j_iconst 0 dX12_begins_13 rfl (by decide) ?_
    refine j_iast' (j := (Int32.toNatClampNeg x1)) dX12_begins_14 rfl (hG 152 (0, 68) rfl) (o1 c0) rfl ?_
    refine j_iinc (x1 + 1) (ls' := [.ref 112, .int (x1 + 1)]) dX12_begins_15 rfl rfl rfl (Nat.le_of_ble_eq_true rfl) rfl ?_
    refine j_goto 2 dX12_begins_18 (by decide) ?_
    exact k1 c0
theorem b_X12_begins_49 {l : Launch} {G : jG} {μ : jM} {φ : jM → Prop} (hG : gMM G) (hP : gNN μ) 
    (k0 : φ μ) :
    J l mX12_begins (jZ0 1 G (pV φ)) G 0 0 49 [.null, .null] [] μ := by
  exact j_vret dX12_begins_49 rfl (k0 )
theorem b_X12_keepsRow_0 {l : Launch} {G : jG} {μ : jM} {φ : jM → Prop} (hG : gMM G) (hP : gNN μ) 
    (k0 : J l mX12_keepsRow (jZ0 0 G (pV φ)) G 0 0 2 [.ref 112, .int 0] [] μ) :
    J l mX12_keepsRow (jZ0 0 G (pV φ)) G 0 0 0 [.ref 112, .null] [] μ := by
  refine j_iconst 0 dX12_keepsRow_0 rfl (by decide) ?_
  refine j_istore_n (ls' := [.ref 112, .int 0]) dX12_keepsRow_1 rfl rfl (Nat.le_of_ble_eq_true rfl) rfl ?_
  exact k0 
theorem b_X12_keepsRow_2 {l : Launch} {G : jG} {μ : jM} {φ : jM → Prop} {x1 : Int32} (hG : gMM G) (hP : gNN μ) 
    (k0 : (68 ≤ (x1 : Int32)) → φ μ) 
    (o0 : (¬ (68 ≤ (x1 : Int32))) → vp_in x1 68) 
    (k1 : (¬ (68 ≤ (x1 : Int32))) → J l mX12_keepsRow (jZ0 0 G (pV φ)) G 0 0 2 [.ref 112, .int (x1 + 1)] [] (wI μ 151 (Int32.toNatClampNeg x1) (μ.1 152 (Int32.toNatClampNeg x1)))) :
    J l mX12_keepsRow (jZ0 0 G (pV φ)) G 0 0 2 [.ref 112, .int x1] [] μ := by
  refine j_iload_n dX12_keepsRow_2 rfl rfl ?_
  refine j_bipush 68 dX12_keepsRow_3 rfl (by decide) ?_
  refine j_icmp_ge 26 dX12_keepsRow_5 rfl (by decide) (fun c0 => ?_) (fun c0 => ?_)
  · skip
    exact j_vret dX12_keepsRow_26 rfl (k0 c0)
  · skip
    refine j_aload_n dX12_keepsRow_8 rfl rfl ?_
    refine j_getR (ci := 12) (N := 80) (f := 56) (T := TX12) 151 dX12_keepsRow_9 rfl (hG 112 (17, 80) rfl) rfl (by decide) fl_X12_134 rfl (hP 112 56 151 rfl) ?_
    refine j_iload_n dX12_keepsRow_12 rfl rfl ?_
    refine j_aload_n dX12_keepsRow_13 rfl rfl ?_
    refine j_getR (ci := 12) (N := 80) (f := 57) (T := TX12) 152 dX12_keepsRow_14 rfl (hG 112 (17, 80) rfl) rfl (by decide) fl_X12_137 rfl (hP 112 57 152 rfl) ?_
    refine j_iload_n dX12_keepsRow_17 rfl rfl ?_
    refine j_iald' (j := (Int32.toNatClampNeg x1)) dX12_keepsRow_18 rfl (hG 152 (0, 68) rfl) (o0 c0) rfl ?_
    refine j_iast' (j := (Int32.toNatClampNeg x1)) dX12_keepsRow_19 rfl (hG 151 (0, 68) rfl) (o0 c0) rfl ?_
    refine j_iinc (x1 + 1) (ls' := [.ref 112, .int (x1 + 1)]) dX12_keepsRow_20 rfl rfl rfl (Nat.le_of_ble_eq_true rfl) rfl ?_
    refine j_goto 2 dX12_keepsRow_23 (by decide) ?_
    exact k1 c0
theorem b_X12_copies_0 {l : Launch} {G : jG} {μ : jM} {φ : jM → Prop} (hG : gMM G) (hP : gNN μ) 
    (k0 : J l mX12_copies (jZ0 1 G (pV φ)) G 0 0 2 [.ref 112, .int 0] [] μ) :
    J l mX12_copies (jZ0 1 G (pV φ)) G 0 0 0 [.ref 112, .null] [] μ := by
  refine j_iconst 0 dX12_copies_0 rfl (by decide) ?_
  refine j_istore_n (ls' := [.ref 112, .int 0]) dX12_copies_1 rfl rfl (Nat.le_of_ble_eq_true rfl) rfl ?_
  exact k0 
theorem b_X12_copies_2 {l : Launch} {G : jG} {μ : jM} {φ : jM → Prop} {x1 : Int32} {ψ0 : jM → Prop} (hG : gMM G) (hP : gNN μ) 
    (e0 : (68 ≤ (x1 : Int32)) → jC0 l mX12_plainly 0 G [.ref 112] μ (pV ψ0)) 
    (k0 : (68 ≤ (x1 : Int32)) → ∀ μ', ψ0 μ' → J l mX12_copies (jZ0 1 G (pV φ)) G 0 0 30 [.null, .null] [] μ') 
    (o0 : (¬ (68 ≤ (x1 : Int32))) → vp_in x1 68) 
    (k1 : (¬ (68 ≤ (x1 : Int32))) → J l mX12_copies (jZ0 1 G (pV φ)) G 0 0 2 [.ref 112, .int (x1 + 1)] [] (wI μ 152 (Int32.toNatClampNeg x1) (μ.1 151 (Int32.toNatClampNeg x1)))) :
    J l mX12_copies (jZ0 1 G (pV φ)) G 0 0 2 [.ref 112, .int x1] [] μ := by
  refine j_iload_n dX12_copies_2 rfl rfl ?_
  refine j_bipush 68 dX12_copies_3 rfl (by decide) ?_
  refine j_icmp_ge 26 dX12_copies_5 rfl (by decide) (fun c0 => ?_) (fun c0 => ?_)
  · skip
    refine j_aload_n dX12_copies_26 rfl rfl ?_
    refine j_cV (as := []) (rest := []) dX12_copies_27 rfl vw_X12_362 (hG 112 (17, 80) rfl) rfl ⟨Nat.le_of_ble_eq_true rfl, Nat.le_of_ble_eq_true rfl⟩ rfl rfl (fun _ _ => Nat.le_of_ble_eq_true rfl) (e0 c0) (fun r μ' hr => ?_)
    obtain ⟨rfl, hr⟩ := hr
    refine j_forget (ls' := [.null, .null]) ⟨Or.inl rfl, Or.inl rfl, trivial⟩ ?_
    exact k0 c0 μ' hr
  · skip
    refine j_aload_n dX12_copies_8 rfl rfl ?_
    refine j_getR (ci := 12) (N := 80) (f := 57) (T := TX12) 152 dX12_copies_9 rfl (hG 112 (17, 80) rfl) rfl (by decide) fl_X12_137 rfl (hP 112 57 152 rfl) ?_
    refine j_iload_n dX12_copies_12 rfl rfl ?_
    refine j_aload_n dX12_copies_13 rfl rfl ?_
    refine j_getR (ci := 12) (N := 80) (f := 56) (T := TX12) 151 dX12_copies_14 rfl (hG 112 (17, 80) rfl) rfl (by decide) fl_X12_134 rfl (hP 112 56 151 rfl) ?_
    refine j_iload_n dX12_copies_17 rfl rfl ?_
    refine j_iald' (j := (Int32.toNatClampNeg x1)) dX12_copies_18 rfl (hG 151 (0, 68) rfl) (o0 c0) rfl ?_
    refine j_iast' (j := (Int32.toNatClampNeg x1)) dX12_copies_19 rfl (hG 152 (0, 68) rfl) (o0 c0) rfl ?_
    refine j_iinc (x1 + 1) (ls' := [.ref 112, .int (x1 + 1)]) dX12_copies_20 rfl rfl rfl (Nat.le_of_ble_eq_true rfl) rfl ?_
    refine j_goto 2 dX12_copies_23 (by decide) ?_
    exact k1 c0
theorem b_X12_copies_30 {l : Launch} {G : jG} {μ : jM} {φ : jM → Prop} (hG : gMM G) (hP : gNN μ) 
    (k0 : φ μ) :
    J l mX12_copies (jZ0 1 G (pV φ)) G 0 0 30 [.null, .null] [] μ := by
  exact j_vret dX12_copies_30 rfl (k0 )
theorem b_X12_mixed_0 {l : Launch} {G : jG} {μ : jM} {φ : Int32 → jM → Prop} {x0 x1 : Int32} (hG : gMM G) (hP : gNN μ) 
    (k0 : φ ((((x0 ^^^ x1) * 1103515245) + 12345) ^^^ ((Int32.toUInt32 (((x0 ^^^ x1) * 1103515245) + 12345) >>> (Int32.toUInt32 15 &&& Int32.toUInt32 31)).toInt32)) μ) :
    J l mX12_mixed (jZ0 0 G (pI φ)) G 0 0 0 [.int x0, .int x1, .null] [] μ := by
  refine j_iload_n dX12_mixed_0 rfl rfl ?_
  refine j_iload_n dX12_mixed_1 rfl rfl ?_
  refine j_ixor dX12_mixed_2 rfl ?_
  refine j_ldcw 1103515245 dX12_mixed_3 rfl ck_X12_365 ?_
  refine j_imul dX12_mixed_6 rfl ?_
  refine j_sipush 12345 dX12_mixed_7 rfl (by decide) ?_
  refine j_iadd dX12_mixed_10 rfl ?_
  refine j_istore_n (ls' := [.int x0, .int x1, .int (((x0 ^^^ x1) * 1103515245) + 12345)]) dX12_mixed_11 rfl rfl (Nat.le_of_ble_eq_true rfl) rfl ?_
  refine j_iload_n dX12_mixed_12 rfl rfl ?_
  refine j_iload_n dX12_mixed_13 rfl rfl ?_
  refine j_bipush 15 dX12_mixed_14 rfl (by decide) ?_
  refine j_iushr dX12_mixed_16 rfl ?_
  refine j_ixor dX12_mixed_17 rfl ?_
  exact j_iret dX12_mixed_18 rfl (k0 )
theorem b_X12_isFoggy_0 {l : Launch} {G : jG} {μ : jM} {φ : Int32 → jM → Prop} {ψ0 : Int32 → jM → Prop} (hG : gMM G) (hP : gNN μ) 
    (e0 : jC0 l mX12_mixed 0 G [.int (μ.1 112 58), .int 73] μ (pI ψ0)) 
    (k0 : ∀ v μ', ψ0 v μ' → J l mX12_isFoggy (jZ0 1 G (pI φ)) G 0 0 9 [.ref 112] [.int v] μ') :
    J l mX12_isFoggy (jZ0 1 G (pI φ)) G 0 0 0 [.ref 112] [] μ := by
  refine j_aload_n dX12_isFoggy_0 rfl rfl ?_
  refine j_getI (ci := 12) (N := 80) (f := 58) (T := TX12) dX12_isFoggy_1 rfl (hG 112 (17, 80) rfl) rfl (by decide) fl_X12_353 rfl ?_
  refine j_bipush 73 dX12_isFoggy_4 rfl (by decide) ?_
  refine j_cS (as := [.int (μ.1 112 58), .int 73]) (rest := []) dX12_isFoggy_6 rfl vw_X12_366 ⟨Nat.le_of_ble_eq_true rfl, Nat.le_of_ble_eq_true rfl⟩ rfl rfl (fun _ _ => Nat.le_of_ble_eq_true rfl) (e0 ) (fun r μ' hr => ?_)
  obtain ⟨v, rfl, hr⟩ := hr
  exact k0  v μ' hr
theorem b_X12_isFoggy_9 {l : Launch} {G : jG} {μ : jM} {φ : Int32 → jM → Prop} {z0 : Int32} {ψ0 : Int32 → jM → Prop} (hG : gMM G) (hP : gNN μ) 
    (e0 : jC0 l mX12_mixed 0 G [.int z0, .int (μ.1 152 67)] μ (pI ψ0)) 
    (k0 : ∀ v μ', ψ0 v μ' → J l mX12_isFoggy (jZ0 1 G (pI φ)) G 0 0 19 [.ref 112] [.int v] μ') :
    J l mX12_isFoggy (jZ0 1 G (pI φ)) G 0 0 9 [.ref 112] [.int z0] μ := by
  refine j_aload_n dX12_isFoggy_9 rfl rfl ?_
  refine j_getR (ci := 12) (N := 80) (f := 57) (T := TX12) 152 dX12_isFoggy_10 rfl (hG 112 (17, 80) rfl) rfl (by decide) fl_X12_137 rfl (hP 112 57 152 rfl) ?_
  refine j_bipush 67 dX12_isFoggy_13 rfl (by decide) ?_
  refine j_iald' (j := 67) dX12_isFoggy_15 rfl (hG 152 (0, 68) rfl) (vpK (by decide)) (by decide) ?_
  refine j_cS (as := [.int z0, .int (μ.1 152 67)]) (rest := []) dX12_isFoggy_16 rfl vw_X12_366 ⟨Nat.le_of_ble_eq_true rfl, Nat.le_of_ble_eq_true rfl⟩ rfl rfl (fun _ _ => Nat.le_of_ble_eq_true rfl) (e0 ) (fun r μ' hr => ?_)
  obtain ⟨v, rfl, hr⟩ := hr
  exact k0  v μ' hr
theorem b_X12_isFoggy_19 {l : Launch} {G : jG} {μ : jM} {φ : Int32 → jM → Prop} {z0 : Int32} (hG : gMM G) (hP : gNN μ) 
    (o0 : vp_in (μ.1 112 18) 2) 
    (k0 : ((μ.1 135 (Int32.toNatClampNeg (μ.1 112 18))) ≤ ((((Int32.toUInt32 z0 >>> (Int32.toUInt32 1 &&& Int32.toUInt32 31)).toInt32) - ((Int32.toUInt32 z0 >>> (Int32.toUInt32 1 &&& Int32.toUInt32 31)).toInt32) / 100 * 100) : Int32)) → φ 0 μ) 
    (k1 : (¬ ((μ.1 135 (Int32.toNatClampNeg (μ.1 112 18))) ≤ ((((Int32.toUInt32 z0 >>> (Int32.toUInt32 1 &&& Int32.toUInt32 31)).toInt32) - ((Int32.toUInt32 z0 >>> (Int32.toUInt32 1 &&& Int32.toUInt32 31)).toInt32) / 100 * 100) : Int32))) → φ 1 μ) :
    J l mX12_isFoggy (jZ0 1 G (pI φ)) G 0 0 19 [.ref 112] [.int z0] μ := by
  refine j_iconst 1 dX12_isFoggy_19 rfl (by decide) ?_
  refine j_iushr dX12_isFoggy_20 rfl ?_
  refine j_bipush 100 dX12_isFoggy_21 rfl (by decide) ?_
  refine j_irem dX12_isFoggy_23 rfl (by decide) ?_
  refine j_aload_n dX12_isFoggy_24 rfl rfl ?_
  refine j_getR (ci := 12) (N := 80) (f := 36) (T := TX12) 135 dX12_isFoggy_25 rfl (hG 112 (17, 80) rfl) rfl (by decide) fl_X12_86 rfl (hP 112 36 135 rfl) ?_
  refine j_aload_n dX12_isFoggy_28 rfl rfl ?_
  refine j_getI (ci := 12) (N := 80) (f := 18) (T := TX12) dX12_isFoggy_29 rfl (hG 112 (17, 80) rfl) rfl (by decide) fl_X12_263 rfl ?_
  refine j_iald' (j := (Int32.toNatClampNeg (μ.1 112 18))) dX12_isFoggy_32 rfl (hG 135 (0, 2) rfl) o0 rfl ?_
  refine j_icmp_ge 40 dX12_isFoggy_33 rfl (by decide) (fun c0 => ?_) (fun c0 => ?_)
  · skip
    refine j_iconst 0 dX12_isFoggy_40 rfl (by decide) ?_
    exact j_zret dX12_isFoggy_41 rfl (by decide) (k0 c0)
  · skip
    refine j_iconst 1 dX12_isFoggy_36 rfl (by decide) ?_
    refine j_goto 41 dX12_isFoggy_37 (by decide) ?_
    exact j_zret dX12_isFoggy_41 rfl (by decide) (k1 c0)
theorem b_X12_hasGate_0 {l : Launch} {G : jG} {μ : jM} {φ : Int32 → jM → Prop} {x1 : Int32} (hG : gMM G) (hP : gNN μ) 
    (k0 : (¬ (((μ.1 152 64) >>> (x1 &&& 31)) &&& 1) = (1 : Int32)) → φ 0 μ) 
    (k1 : ((((μ.1 152 64) >>> (x1 &&& 31)) &&& 1) = (1 : Int32)) → φ 1 μ) :
    J l mX12_hasGate (jZ0 0 G (pI φ)) G 0 0 0 [.ref 112, .int x1] [] μ := by
  refine j_aload_n dX12_hasGate_0 rfl rfl ?_
  refine j_getR (ci := 12) (N := 80) (f := 57) (T := TX12) 152 dX12_hasGate_1 rfl (hG 112 (17, 80) rfl) rfl (by decide) fl_X12_137 rfl (hP 112 57 152 rfl) ?_
  refine j_bipush 64 dX12_hasGate_4 rfl (by decide) ?_
  refine j_iald' (j := 64) dX12_hasGate_6 rfl (hG 152 (0, 68) rfl) (vpK (by decide)) (by decide) ?_
  refine j_iload_n dX12_hasGate_7 rfl rfl ?_
  refine j_ishr dX12_hasGate_8 rfl ?_
  refine j_iconst 1 dX12_hasGate_9 rfl (by decide) ?_
  refine j_iand dX12_hasGate_10 rfl ?_
  refine j_iconst 1 dX12_hasGate_11 rfl (by decide) ?_
  refine j_icmp_ne 19 dX12_hasGate_12 rfl (by decide) (fun c0 => ?_) (fun c0 => ?_)
  · skip
    refine j_iconst 0 dX12_hasGate_19 rfl (by decide) ?_
    exact j_zret dX12_hasGate_20 rfl (by decide) (k0 c0)
  · skip
    refine j_iconst 1 dX12_hasGate_15 rfl (by decide) ?_
    refine j_goto 20 dX12_hasGate_16 (by decide) ?_
    exact j_zret dX12_hasGate_20 rfl (by decide) (k1 c0)
theorem b_X12_overField_0 {l : Launch} {G : jG} {μ : jM} {φ : Int32 → jM → Prop} {x1 : Int32} (hG : gMM G) (hP : gNN μ) 
    (o0 : vp_in ((12 * (μ.1 112 18)) + x1) 24) 
    (k0 : φ (μ.1 127 (Int32.toNatClampNeg ((12 * (μ.1 112 18)) + x1))) μ) 
    (o1 : (μ.1 127 (Int32.toNatClampNeg ((12 * (μ.1 112 18)) + x1))) = (0 : Int32) ∨ (μ.1 127 (Int32.toNatClampNeg ((12 * (μ.1 112 18)) + x1))) = (1 : Int32)) :
    J l mX12_overField (jZ0 0 G (pI φ)) G 0 0 0 [.ref 112, .int x1] [] μ := by
  refine j_aload_n dX12_overField_0 rfl rfl ?_
  refine j_getR (ci := 12) (N := 80) (f := 28) (T := TX12) 127 dX12_overField_1 rfl (hG 112 (17, 80) rfl) rfl (by decide) fl_X12_61 rfl (hP 112 28 127 rfl) ?_
  refine j_bipush 12 dX12_overField_4 rfl (by decide) ?_
  refine j_aload_n dX12_overField_6 rfl rfl ?_
  refine j_getI (ci := 12) (N := 80) (f := 18) (T := TX12) dX12_overField_7 rfl (hG 112 (17, 80) rfl) rfl (by decide) fl_X12_263 rfl ?_
  refine j_imul dX12_overField_10 rfl ?_
  refine j_iload_n dX12_overField_11 rfl rfl ?_
  refine j_iadd dX12_overField_12 rfl ?_
  refine j_zald' (j := (Int32.toNatClampNeg ((12 * (μ.1 112 18)) + x1))) dX12_overField_13 rfl (hG 127 (2, 24) rfl) o0 rfl ?_
  exact j_zret dX12_overField_14 rfl o1 (k0 )
theorem b_X12_asks_0 {l : Launch} {G : jG} {μ : jM} {φ : Int32 → jM → Prop} {x1 x2 x3 : Int32} (hG : gMM G) (hP : gNN μ) 
    (o0 : vp_in ((3 * (μ.1 112 18)) + x1) 6) 
    (k0 : (¬ (μ.1 139 (Int32.toNatClampNeg ((3 * (μ.1 112 18)) + x1))) = ((μ.1 140 (Int32.toNatClampNeg ((3 * (μ.1 112 18)) + x1))) : Int32)) → J l mX12_asks (jZ0 1 G (pI φ)) G 0 0 43 [.ref 112, .null, .null, .int x3, .int ((3 * (μ.1 112 18)) + x1), .int (μ.1 139 (Int32.toNatClampNeg ((3 * (μ.1 112 18)) + x1))), .null, .null] [] (wI μ 112 55 0)) 
    (k1 : ((μ.1 139 (Int32.toNatClampNeg ((3 * (μ.1 112 18)) + x1))) = ((μ.1 140 (Int32.toNatClampNeg ((3 * (μ.1 112 18)) + x1))) : Int32)) → φ x2 μ) :
    J l mX12_asks (jZ0 1 G (pI φ)) G 0 0 0 [.ref 112, .int x1, .int x2, .int x3, .null, .null, .null, .null] [] μ := by
  refine j_iconst 3 dX12_asks_0 rfl (by decide) ?_
  refine j_aload_n dX12_asks_1 rfl rfl ?_
  refine j_getI (ci := 12) (N := 80) (f := 18) (T := TX12) dX12_asks_2 rfl (hG 112 (17, 80) rfl) rfl (by decide) fl_X12_263 rfl ?_
  refine j_imul dX12_asks_5 rfl ?_
  refine j_iload_n dX12_asks_6 rfl rfl ?_
  refine j_iadd dX12_asks_7 rfl ?_
  refine j_istore (ls' := [.ref 112, .int x1, .int x2, .int x3, .int ((3 * (μ.1 112 18)) + x1), .null, .null, .null]) dX12_asks_8 rfl (Nat.le_of_ble_eq_true rfl) rfl ?_
  refine j_aload_n dX12_asks_10 rfl rfl ?_
  refine j_getR (ci := 12) (N := 80) (f := 40) (T := TX12) 139 dX12_asks_11 rfl (hG 112 (17, 80) rfl) rfl (by decide) fl_X12_98 rfl (hP 112 40 139 rfl) ?_
  refine j_iload dX12_asks_14 rfl rfl ?_
  refine j_iald' (j := (Int32.toNatClampNeg ((3 * (μ.1 112 18)) + x1))) dX12_asks_16 rfl (hG 139 (0, 6) rfl) o0 rfl ?_
  refine j_aload_n dX12_asks_17 rfl rfl ?_
  refine j_getR (ci := 12) (N := 80) (f := 41) (T := TX12) 140 dX12_asks_18 rfl (hG 112 (17, 80) rfl) rfl (by decide) fl_X12_101 rfl (hP 112 41 140 rfl) ?_
  refine j_iload dX12_asks_21 rfl rfl ?_
  refine j_iald' (j := (Int32.toNatClampNeg ((3 * (μ.1 112 18)) + x1))) dX12_asks_23 rfl (hG 140 (0, 6) rfl) o0 rfl ?_
  refine j_icmp_ne 29 dX12_asks_24 rfl (by decide) (fun c0 => ?_) (fun c0 => ?_)
  · skip
    refine j_aload_n dX12_asks_29 rfl rfl ?_
    refine j_iconst 0 dX12_asks_30 rfl (by decide) ?_
    refine j_putB (ci := 12) (N := 80) (f := 55) (T := TX12) dX12_asks_31 rfl (hG 112 (17, 80) rfl) rfl (by decide) fl_X12_345 rfl rfl (by decide) ?_
    refine j_aload_n dX12_asks_34 rfl rfl ?_
    refine j_getR (ci := 12) (N := 80) (f := 40) (T := TX12) 139 dX12_asks_35 rfl (hG 112 (17, 80) rfl) rfl (by decide) fl_X12_98 rfl (hP 112 40 139 rfl) ?_
    refine j_iload dX12_asks_38 rfl rfl ?_
    refine j_iald' (j := (Int32.toNatClampNeg ((3 * (μ.1 112 18)) + x1))) dX12_asks_40 rfl (hG 139 (0, 6) rfl) o0 rfl ?_
    refine j_istore (ls' := [.ref 112, .int x1, .int x2, .int x3, .int ((3 * (μ.1 112 18)) + x1), .int (μ.1 139 (Int32.toNatClampNeg ((3 * (μ.1 112 18)) + x1))), .null, .null]) dX12_asks_41 rfl (Nat.le_of_ble_eq_true rfl) rfl ?_
    refine j_forget (ls' := [.ref 112, .null, .null, .int x3, .int ((3 * (μ.1 112 18)) + x1), .int (μ.1 139 (Int32.toNatClampNeg ((3 * (μ.1 112 18)) + x1))), .null, .null]) ⟨Or.inr rfl, Or.inl rfl, Or.inl rfl, Or.inr rfl, Or.inr rfl, Or.inr rfl, Or.inr rfl, Or.inr rfl, trivial⟩ ?_
    exact k0 c0
  · skip
    refine j_iload_n dX12_asks_27 rfl rfl ?_
    exact j_iret dX12_asks_28 rfl (k1 c0)
theorem b_X12_asks_43 {l : Launch} {G : jG} {μ : jM} {φ : Int32 → jM → Prop} {x3 x4 x5 : Int32} {ψ1 : Int32 → jM → Prop} {ψ2 : Int32 → jM → Prop} (hG : gMM G) (hP : gNN μ) 
    (o0 : vp_in x4 6) 
    (k0 : ((μ.1 140 (Int32.toNatClampNeg x4)) ≤ (x5 : Int32)) → φ 0 μ) 
    (o1 : (¬ ((μ.1 140 (Int32.toNatClampNeg x4)) ≤ (x5 : Int32))) → vp_in x5 260) 
    (e1 : (¬ ((μ.1 140 (Int32.toNatClampNeg x4)) ≤ (x5 : Int32))) → ((μ.1 141 (Int32.toNatClampNeg x5)) = (0 : Int32)) → jC0 l mX12_termOf 0 G [.ref 112, .int (μ.1 144 (Int32.toNatClampNeg x5)), .int (μ.1 145 (Int32.toNatClampNeg x5))] μ (pI ψ1)) 
    (k1 : (¬ ((μ.1 140 (Int32.toNatClampNeg x4)) ≤ (x5 : Int32))) → ((μ.1 141 (Int32.toNatClampNeg x5)) = (0 : Int32)) → ∀ v μ', ψ1 v μ' → J l mX12_asks (jZ0 1 G (pI φ)) G 0 0 142 [.ref 112, .null, .null, .int x3, .null, .null, .null, .null] [.int v] μ') 
    (e2 : (¬ ((μ.1 140 (Int32.toNatClampNeg x4)) ≤ (x5 : Int32))) → (¬ ((μ.1 141 (Int32.toNatClampNeg x5)) = (0 : Int32))) → jC0 l mX12_termOf 0 G [.ref 112, .int (μ.1 142 (Int32.toNatClampNeg x5)), .int (μ.1 143 (Int32.toNatClampNeg x5))] μ (pI ψ2)) 
    (k2 : (¬ ((μ.1 140 (Int32.toNatClampNeg x4)) ≤ (x5 : Int32))) → (¬ ((μ.1 141 (Int32.toNatClampNeg x5)) = (0 : Int32))) → ∀ v μ', ψ2 v μ' → J l mX12_asks (jZ0 1 G (pI φ)) G 0 0 83 [.ref 112, .null, .null, .int x3, .int x4, .int x5, .null, .null] [.int v] μ') :
    J l mX12_asks (jZ0 1 G (pI φ)) G 0 0 43 [.ref 112, .null, .null, .int x3, .int x4, .int x5, .null, .null] [] μ := by
  refine j_iload dX12_asks_43 rfl rfl ?_
  refine j_aload_n dX12_asks_45 rfl rfl ?_
  refine j_getR (ci := 12) (N := 80) (f := 41) (T := TX12) 140 dX12_asks_46 rfl (hG 112 (17, 80) rfl) rfl (by decide) fl_X12_101 rfl (hP 112 41 140 rfl) ?_
  refine j_iload dX12_asks_49 rfl rfl ?_
  refine j_iald' (j := (Int32.toNatClampNeg x4)) dX12_asks_51 rfl (hG 140 (0, 6) rfl) o0 rfl ?_
  refine j_icmp_ge 179 dX12_asks_52 rfl (by decide) (fun c0 => ?_) (fun c0 => ?_)
  · skip
    refine j_iconst 0 dX12_asks_179 rfl (by decide) ?_
    exact j_iret dX12_asks_180 rfl (k0 c0)
  · skip
    refine j_aload_n dX12_asks_55 rfl rfl ?_
    refine j_getR (ci := 12) (N := 80) (f := 43) (T := TX12) 141 dX12_asks_56 rfl (hG 112 (17, 80) rfl) rfl (by decide) fl_X12_104 rfl (hP 112 43 141 rfl) ?_
    refine j_iload dX12_asks_59 rfl rfl ?_
    refine j_zald' (j := (Int32.toNatClampNeg x5)) dX12_asks_61 rfl (hG 141 (2, 260) rfl) (o1 c0) rfl ?_
    refine j_if_eq 124 dX12_asks_62 rfl (by decide) (fun c1 => ?_) (fun c1 => ?_)
    · skip
      refine j_aload_n dX12_asks_124 rfl rfl ?_
      refine j_aload_n dX12_asks_125 rfl rfl ?_
      refine j_getR (ci := 12) (N := 80) (f := 46) (T := TX12) 144 dX12_asks_126 rfl (hG 112 (17, 80) rfl) rfl (by decide) fl_X12_113 rfl (hP 112 46 144 rfl) ?_
      refine j_iload dX12_asks_129 rfl rfl ?_
      refine j_iald' (j := (Int32.toNatClampNeg x5)) dX12_asks_131 rfl (hG 144 (0, 260) rfl) (o1 c0) rfl ?_
      refine j_aload_n dX12_asks_132 rfl rfl ?_
      refine j_getR (ci := 12) (N := 80) (f := 47) (T := TX12) 145 dX12_asks_133 rfl (hG 112 (17, 80) rfl) rfl (by decide) fl_X12_116 rfl (hP 112 47 145 rfl) ?_
      refine j_iload dX12_asks_136 rfl rfl ?_
      refine j_iald' (j := (Int32.toNatClampNeg x5)) dX12_asks_138 rfl (hG 145 (0, 260) rfl) (o1 c0) rfl ?_
      refine j_cV (as := [.int (μ.1 144 (Int32.toNatClampNeg x5)), .int (μ.1 145 (Int32.toNatClampNeg x5))]) (rest := []) dX12_asks_139 rfl vw_X12_369 (hG 112 (17, 80) rfl) rfl ⟨Nat.le_of_ble_eq_true rfl, Nat.le_of_ble_eq_true rfl⟩ rfl rfl (fun _ _ => Nat.le_of_ble_eq_true rfl) (e1 c0 c1) (fun r μ' hr => ?_)
      obtain ⟨v, rfl, hr⟩ := hr
      refine j_forget (ls' := [.ref 112, .null, .null, .int x3, .null, .null, .null, .null]) ⟨Or.inr rfl, Or.inr rfl, Or.inr rfl, Or.inr rfl, Or.inl rfl, Or.inl rfl, Or.inr rfl, Or.inr rfl, trivial⟩ ?_
      exact k1 c0 c1 v μ' hr
    · skip
      refine j_aload_n dX12_asks_65 rfl rfl ?_
      refine j_aload_n dX12_asks_66 rfl rfl ?_
      refine j_getR (ci := 12) (N := 80) (f := 44) (T := TX12) 142 dX12_asks_67 rfl (hG 112 (17, 80) rfl) rfl (by decide) fl_X12_107 rfl (hP 112 44 142 rfl) ?_
      refine j_iload dX12_asks_70 rfl rfl ?_
      refine j_iald' (j := (Int32.toNatClampNeg x5)) dX12_asks_72 rfl (hG 142 (0, 260) rfl) (o1 c0) rfl ?_
      refine j_aload_n dX12_asks_73 rfl rfl ?_
      refine j_getR (ci := 12) (N := 80) (f := 45) (T := TX12) 143 dX12_asks_74 rfl (hG 112 (17, 80) rfl) rfl (by decide) fl_X12_110 rfl (hP 112 45 143 rfl) ?_
      refine j_iload dX12_asks_77 rfl rfl ?_
      refine j_iald' (j := (Int32.toNatClampNeg x5)) dX12_asks_79 rfl (hG 143 (0, 260) rfl) (o1 c0) rfl ?_
      refine j_cV (as := [.int (μ.1 142 (Int32.toNatClampNeg x5)), .int (μ.1 143 (Int32.toNatClampNeg x5))]) (rest := []) dX12_asks_80 rfl vw_X12_369 (hG 112 (17, 80) rfl) rfl ⟨Nat.le_of_ble_eq_true rfl, Nat.le_of_ble_eq_true rfl⟩ rfl rfl (fun _ _ => Nat.le_of_ble_eq_true rfl) (e2 c0 c1) (fun r μ' hr => ?_)
      obtain ⟨v, rfl, hr⟩ := hr
      exact k2 c0 c1 v μ' hr
theorem b_X12_asks_83 {l : Launch} {G : jG} {μ : jM} {φ : Int32 → jM → Prop} {x3 x4 x5 z0 : Int32} {ψ0 : Int32 → jM → Prop} (hG : gMM G) (hP : gNN μ) 
    (o0 : vp_in x5 260) 
    (e0 : jC0 l mX12_termOf 0 G [.ref 112, .int (μ.1 143 (Int32.toNatClampNeg x5)), .int (μ.1 144 (Int32.toNatClampNeg x5))] μ (pI ψ0)) 
    (k0 : ∀ v μ', ψ0 v μ' → J l mX12_asks (jZ0 1 G (pI φ)) G 0 0 103 [.ref 112, .null, .null, .int x3, .int x4, .int x5, .int z0, .null] [.int v] μ') :
    J l mX12_asks (jZ0 1 G (pI φ)) G 0 0 83 [.ref 112, .null, .null, .int x3, .int x4, .int x5, .null, .null] [.int z0] μ := by
  refine j_istore (ls' := [.ref 112, .null, .null, .int x3, .int x4, .int x5, .int z0, .null]) dX12_asks_83 rfl (Nat.le_of_ble_eq_true rfl) rfl ?_
  refine j_aload_n dX12_asks_85 rfl rfl ?_
  refine j_aload_n dX12_asks_86 rfl rfl ?_
  refine j_getR (ci := 12) (N := 80) (f := 45) (T := TX12) 143 dX12_asks_87 rfl (hG 112 (17, 80) rfl) rfl (by decide) fl_X12_110 rfl (hP 112 45 143 rfl) ?_
  refine j_iload dX12_asks_90 rfl rfl ?_
  refine j_iald' (j := (Int32.toNatClampNeg x5)) dX12_asks_92 rfl (hG 143 (0, 260) rfl) o0 rfl ?_
  refine j_aload_n dX12_asks_93 rfl rfl ?_
  refine j_getR (ci := 12) (N := 80) (f := 46) (T := TX12) 144 dX12_asks_94 rfl (hG 112 (17, 80) rfl) rfl (by decide) fl_X12_113 rfl (hP 112 46 144 rfl) ?_
  refine j_iload dX12_asks_97 rfl rfl ?_
  refine j_iald' (j := (Int32.toNatClampNeg x5)) dX12_asks_99 rfl (hG 144 (0, 260) rfl) o0 rfl ?_
  refine j_cV (as := [.int (μ.1 143 (Int32.toNatClampNeg x5)), .int (μ.1 144 (Int32.toNatClampNeg x5))]) (rest := []) dX12_asks_100 rfl vw_X12_369 (hG 112 (17, 80) rfl) rfl ⟨Nat.le_of_ble_eq_true rfl, Nat.le_of_ble_eq_true rfl⟩ rfl rfl (fun _ _ => Nat.le_of_ble_eq_true rfl) (e0 ) (fun r μ' hr => ?_)
  obtain ⟨v, rfl, hr⟩ := hr
  exact k0  v μ' hr
theorem b_X12_asks_103 {l : Launch} {G : jG} {μ : jM} {φ : Int32 → jM → Prop} {x3 x4 x5 x6 z0 : Int32} {ψ0 : Int32 → jM → Prop} (hG : gMM G) (hP : gNN μ) 
    (o0 : ((μ.1 112 55) = (0 : Int32)) → (x6 < (z0 : Int32)) → vp_in x5 260) 
    (e0 : ((μ.1 112 55) = (0 : Int32)) → (x6 < (z0 : Int32)) → jC0 l mX12_termOf 0 G [.ref 112, .int (μ.1 144 (Int32.toNatClampNeg x5)), .int (μ.1 145 (Int32.toNatClampNeg x5))] μ (pI ψ0)) 
    (k0 : ((μ.1 112 55) = (0 : Int32)) → (x6 < (z0 : Int32)) → ∀ v μ', ψ0 v μ' → J l mX12_asks (jZ0 1 G (pI φ)) G 0 0 142 [.ref 112, .null, .null, .int x3, .null, .null, .null, .null] [.int v] μ') 
    (k1 : ((μ.1 112 55) = (0 : Int32)) → (¬ (x6 < (z0 : Int32))) → J l mX12_asks (jZ0 1 G (pI φ)) G 0 0 43 [.ref 112, .null, .null, .int x3, .int x4, .int (x5 + 1), .null, .null] [] μ) 
    (k2 : (¬ ((μ.1 112 55) = (0 : Int32))) → φ 0 μ) :
    J l mX12_asks (jZ0 1 G (pI φ)) G 0 0 103 [.ref 112, .null, .null, .int x3, .int x4, .int x5, .int x6, .null] [.int z0] μ := by
  refine j_istore (ls' := [.ref 112, .null, .null, .int x3, .int x4, .int x5, .int x6, .int z0]) dX12_asks_103 rfl (Nat.le_of_ble_eq_true rfl) rfl ?_
  refine j_aload_n dX12_asks_105 rfl rfl ?_
  refine j_getI (ci := 12) (N := 80) (f := 55) (T := TX12) dX12_asks_106 rfl (hG 112 (17, 80) rfl) rfl (by decide) fl_X12_345 rfl ?_
  refine j_if_eq 114 dX12_asks_109 rfl (by decide) (fun c0 => ?_) (fun c0 => ?_)
  · skip
    refine j_iload dX12_asks_114 rfl rfl ?_
    refine j_iload dX12_asks_116 rfl rfl ?_
    refine j_icmp_lt 124 dX12_asks_118 rfl (by decide) (fun c1 => ?_) (fun c1 => ?_)
    · skip
      refine j_aload_n dX12_asks_124 rfl rfl ?_
      refine j_aload_n dX12_asks_125 rfl rfl ?_
      refine j_getR (ci := 12) (N := 80) (f := 46) (T := TX12) 144 dX12_asks_126 rfl (hG 112 (17, 80) rfl) rfl (by decide) fl_X12_113 rfl (hP 112 46 144 rfl) ?_
      refine j_iload dX12_asks_129 rfl rfl ?_
      refine j_iald' (j := (Int32.toNatClampNeg x5)) dX12_asks_131 rfl (hG 144 (0, 260) rfl) (o0 c0 c1) rfl ?_
      refine j_aload_n dX12_asks_132 rfl rfl ?_
      refine j_getR (ci := 12) (N := 80) (f := 47) (T := TX12) 145 dX12_asks_133 rfl (hG 112 (17, 80) rfl) rfl (by decide) fl_X12_116 rfl (hP 112 47 145 rfl) ?_
      refine j_iload dX12_asks_136 rfl rfl ?_
      refine j_iald' (j := (Int32.toNatClampNeg x5)) dX12_asks_138 rfl (hG 145 (0, 260) rfl) (o0 c0 c1) rfl ?_
      refine j_cV (as := [.int (μ.1 144 (Int32.toNatClampNeg x5)), .int (μ.1 145 (Int32.toNatClampNeg x5))]) (rest := []) dX12_asks_139 rfl vw_X12_369 (hG 112 (17, 80) rfl) rfl ⟨Nat.le_of_ble_eq_true rfl, Nat.le_of_ble_eq_true rfl⟩ rfl rfl (fun _ _ => Nat.le_of_ble_eq_true rfl) (e0 c0 c1) (fun r μ' hr => ?_)
      obtain ⟨v, rfl, hr⟩ := hr
      refine j_forget (ls' := [.ref 112, .null, .null, .int x3, .null, .null, .null, .null]) ⟨Or.inr rfl, Or.inr rfl, Or.inr rfl, Or.inr rfl, Or.inl rfl, Or.inl rfl, Or.inl rfl, Or.inl rfl, trivial⟩ ?_
      exact k0 c0 c1 v μ' hr
    · skip
      refine j_goto 173 dX12_asks_121 (by decide) ?_
      refine j_iinc (x5 + 1) (ls' := [.ref 112, .null, .null, .int x3, .int x4, .int (x5 + 1), .int x6, .int z0]) dX12_asks_173 rfl rfl rfl (Nat.le_of_ble_eq_true rfl) rfl ?_
      refine j_goto 43 dX12_asks_176 (by decide) ?_
      refine j_forget (ls' := [.ref 112, .null, .null, .int x3, .int x4, .int (x5 + 1), .null, .null]) ⟨Or.inr rfl, Or.inr rfl, Or.inr rfl, Or.inr rfl, Or.inr rfl, Or.inr rfl, Or.inl rfl, Or.inl rfl, trivial⟩ ?_
      exact k1 c0 c1
  · skip
    refine j_iconst 0 dX12_asks_112 rfl (by decide) ?_
    exact j_iret dX12_asks_113 rfl (k2 c0)
theorem b_X12_asks_142 {l : Launch} {G : jG} {μ : jM} {φ : Int32 → jM → Prop} {x3 z0 : Int32} (hG : gMM G) (hP : gNN μ) 
    (k0 : (¬ (μ.1 112 55) = (0 : Int32)) → φ 0 μ) 
    (k1 : ((μ.1 112 55) = (0 : Int32)) → (0 ≤ (z0 : Int32)) → (z0 ≤ (x3 : Int32)) → φ z0 μ) 
    (k2 : ((μ.1 112 55) = (0 : Int32)) → (0 ≤ (z0 : Int32)) → (¬ (z0 ≤ (x3 : Int32))) → φ x3 μ) 
    (k3 : ((μ.1 112 55) = (0 : Int32)) → (¬ (0 ≤ (z0 : Int32))) → φ 0 μ) :
    J l mX12_asks (jZ0 1 G (pI φ)) G 0 0 142 [.ref 112, .null, .null, .int x3, .null, .null, .null, .null] [.int z0] μ := by
  refine j_istore (ls' := [.ref 112, .null, .null, .int x3, .null, .null, .int z0, .null]) dX12_asks_142 rfl (Nat.le_of_ble_eq_true rfl) rfl ?_
  refine j_aload_n dX12_asks_144 rfl rfl ?_
  refine j_getI (ci := 12) (N := 80) (f := 55) (T := TX12) dX12_asks_145 rfl (hG 112 (17, 80) rfl) rfl (by decide) fl_X12_345 rfl ?_
  refine j_if_ne 156 dX12_asks_148 rfl (by decide) (fun c0 => ?_) (fun c0 => ?_)
  · skip
    refine j_iconst 0 dX12_asks_156 rfl (by decide) ?_
    refine j_goto 172 dX12_asks_157 (by decide) ?_
    exact j_iret dX12_asks_172 rfl (k0 c0)
  · skip
    refine j_iload dX12_asks_151 rfl rfl ?_
    refine j_if_ge 160 dX12_asks_153 rfl (by decide) (fun c1 => ?_) (fun c1 => ?_)
    · skip
      refine j_iload dX12_asks_160 rfl rfl ?_
      refine j_iload_n dX12_asks_162 rfl rfl ?_
      refine j_icmp_le 170 dX12_asks_163 rfl (by decide) (fun c2 => ?_) (fun c2 => ?_)
      · skip
        refine j_iload dX12_asks_170 rfl rfl ?_
        exact j_iret dX12_asks_172 rfl (k1 c0 c1 c2)
      · skip
        refine j_iload_n dX12_asks_166 rfl rfl ?_
        refine j_goto 172 dX12_asks_167 (by decide) ?_
        exact j_iret dX12_asks_172 rfl (k2 c0 c1 c2)
    · skip
      refine j_iconst 0 dX12_asks_156 rfl (by decide) ?_
      refine j_goto 172 dX12_asks_157 (by decide) ?_
      exact j_iret dX12_asks_172 rfl (k3 c0 c1)
theorem b_X12_rateOn_0 {l : Launch} {G : jG} {μ : jM} {φ : Int32 → jM → Prop} {x1 : Int32} (hG : gMM G) (hP : gNN μ) 
    (k0 : ((μ.1 112 60) < (0 : Int32)) → φ (μ.1 152 65) μ) 
    (k1 : (¬ ((μ.1 112 60) < (0 : Int32))) → (¬ (x1 - x1 / 2 * 2) = (1 : Int32)) → φ (μ.1 152 65) μ) 
    (k2 : (¬ ((μ.1 112 60) < (0 : Int32))) → ((x1 - x1 / 2 * 2) = (1 : Int32)) → φ (μ.1 112 60) μ) :
    J l mX12_rateOn (jZ0 0 G (pI φ)) G 0 0 0 [.ref 112, .int x1] [] μ := by
  refine j_aload_n dX12_rateOn_0 rfl rfl ?_
  refine j_getI (ci := 12) (N := 80) (f := 60) (T := TX12) dX12_rateOn_1 rfl (hG 112 (17, 80) rfl) rfl (by decide) fl_X12_359 rfl ?_
  refine j_if_lt 21 dX12_rateOn_4 rfl (by decide) (fun c0 => ?_) (fun c0 => ?_)
  · skip
    refine j_aload_n dX12_rateOn_21 rfl rfl ?_
    refine j_getR (ci := 12) (N := 80) (f := 57) (T := TX12) 152 dX12_rateOn_22 rfl (hG 112 (17, 80) rfl) rfl (by decide) fl_X12_137 rfl (hP 112 57 152 rfl) ?_
    refine j_bipush 65 dX12_rateOn_25 rfl (by decide) ?_
    refine j_iald' (j := 65) dX12_rateOn_27 rfl (hG 152 (0, 68) rfl) (vpK (by decide)) (by decide) ?_
    exact j_iret dX12_rateOn_28 rfl (k0 c0)
  · skip
    refine j_iload_n dX12_rateOn_7 rfl rfl ?_
    refine j_iconst 2 dX12_rateOn_8 rfl (by decide) ?_
    refine j_irem dX12_rateOn_9 rfl (by decide) ?_
    refine j_iconst 1 dX12_rateOn_10 rfl (by decide) ?_
    refine j_icmp_ne 21 dX12_rateOn_11 rfl (by decide) (fun c1 => ?_) (fun c1 => ?_)
    · skip
      refine j_aload_n dX12_rateOn_21 rfl rfl ?_
      refine j_getR (ci := 12) (N := 80) (f := 57) (T := TX12) 152 dX12_rateOn_22 rfl (hG 112 (17, 80) rfl) rfl (by decide) fl_X12_137 rfl (hP 112 57 152 rfl) ?_
      refine j_bipush 65 dX12_rateOn_25 rfl (by decide) ?_
      refine j_iald' (j := 65) dX12_rateOn_27 rfl (hG 152 (0, 68) rfl) (vpK (by decide)) (by decide) ?_
      exact j_iret dX12_rateOn_28 rfl (k1 c0 c1)
    · skip
      refine j_aload_n dX12_rateOn_14 rfl rfl ?_
      refine j_getI (ci := 12) (N := 80) (f := 60) (T := TX12) dX12_rateOn_15 rfl (hG 112 (17, 80) rfl) rfl (by decide) fl_X12_359 rfl ?_
      refine j_goto 28 dX12_rateOn_18 (by decide) ?_
      exact j_iret dX12_rateOn_28 rfl (k2 c0 c1)
theorem b_X12_looks_0 {l : Launch} {G : jG} {μ : jM} {φ : jM → Prop} {x1 x2 : Int32} {ψ0 : Int32 → jM → Prop} (hG : gMM G) (hP : gNN μ) 
    (o0 : vp_in ((7 * (μ.1 112 18)) + x1) 14) 
    (e0 : jC0 l mX12_isFoggy 1 G [.ref 112] (wI (wI (wI μ 149 0 (μ.1 132 (Int32.toNatClampNeg ((7 * (μ.1 112 18)) + x1)))) 149 1 (μ.1 133 (Int32.toNatClampNeg ((7 * (μ.1 112 18)) + x1)))) 149 2 (μ.1 134 (Int32.toNatClampNeg ((7 * (μ.1 112 18)) + x1)))) (pI ψ0)) 
    (k0 : ∀ v μ', ψ0 v μ' → J l mX12_looks (jZ0 2 G (pV φ)) G 0 0 69 [.ref 112, .null, .int x2] [.int v, .int 3, .ref 149] μ') :
    J l mX12_looks (jZ0 2 G (pV φ)) G 0 0 0 [.ref 112, .int x1, .int x2] [] μ := by
  refine j_aload_n dX12_looks_0 rfl rfl ?_
  refine j_getR (ci := 12) (N := 80) (f := 53) (T := TX12) 149 dX12_looks_1 rfl (hG 112 (17, 80) rfl) rfl (by decide) fl_X12_128 rfl (hP 112 53 149 rfl) ?_
  refine j_iconst 0 dX12_looks_4 rfl (by decide) ?_
  refine j_aload_n dX12_looks_5 rfl rfl ?_
  refine j_getR (ci := 12) (N := 80) (f := 33) (T := TX12) 132 dX12_looks_6 rfl (hG 112 (17, 80) rfl) rfl (by decide) fl_X12_77 rfl (hP 112 33 132 rfl) ?_
  refine j_bipush 7 dX12_looks_9 rfl (by decide) ?_
  refine j_aload_n dX12_looks_11 rfl rfl ?_
  refine j_getI (ci := 12) (N := 80) (f := 18) (T := TX12) dX12_looks_12 rfl (hG 112 (17, 80) rfl) rfl (by decide) fl_X12_263 rfl ?_
  refine j_imul dX12_looks_15 rfl ?_
  refine j_iload_n dX12_looks_16 rfl rfl ?_
  refine j_iadd dX12_looks_17 rfl ?_
  refine j_iald' (j := (Int32.toNatClampNeg ((7 * (μ.1 112 18)) + x1))) dX12_looks_18 rfl (hG 132 (0, 14) rfl) o0 rfl ?_
  refine j_iast' (j := 0) dX12_looks_19 rfl (hG 149 (0, 9) rfl) (vpK (by decide)) (by decide) ?_
  refine j_aload_n dX12_looks_20 rfl rfl ?_
  refine j_getR (ci := 12) (N := 80) (f := 53) (T := TX12) 149 dX12_looks_21 rfl (hG 112 (17, 80) rfl) rfl (by decide) fl_X12_128 rfl (hP 112 53 149 rfl) ?_
  refine j_iconst 1 dX12_looks_24 rfl (by decide) ?_
  refine j_aload_n dX12_looks_25 rfl rfl ?_
  refine j_getR (ci := 12) (N := 80) (f := 34) (T := TX12) 133 dX12_looks_26 rfl (hG 112 (17, 80) rfl) rfl (by decide) fl_X12_80 rfl (hP 112 34 133 rfl) ?_
  refine j_bipush 7 dX12_looks_29 rfl (by decide) ?_
  refine j_aload_n dX12_looks_31 rfl rfl ?_
  refine j_getI (ci := 12) (N := 80) (f := 18) (T := TX12) dX12_looks_32 rfl (hG 112 (17, 80) rfl) rfl (by decide) fl_X12_263 rfl ?_
  refine j_imul dX12_looks_35 rfl ?_
  refine j_iload_n dX12_looks_36 rfl rfl ?_
  refine j_iadd dX12_looks_37 rfl ?_
  refine j_iald' (j := (Int32.toNatClampNeg ((7 * (μ.1 112 18)) + x1))) dX12_looks_38 rfl (hG 133 (0, 14) rfl) o0 rfl ?_
  refine j_iast' (j := 1) dX12_looks_39 rfl (hG 149 (0, 9) rfl) (vpK (by decide)) (by decide) ?_
  refine j_aload_n dX12_looks_40 rfl rfl ?_
  refine j_getR (ci := 12) (N := 80) (f := 53) (T := TX12) 149 dX12_looks_41 rfl (hG 112 (17, 80) rfl) rfl (by decide) fl_X12_128 rfl (hP 112 53 149 rfl) ?_
  refine j_iconst 2 dX12_looks_44 rfl (by decide) ?_
  refine j_aload_n dX12_looks_45 rfl rfl ?_
  refine j_getR (ci := 12) (N := 80) (f := 35) (T := TX12) 134 dX12_looks_46 rfl (hG 112 (17, 80) rfl) rfl (by decide) fl_X12_83 rfl (hP 112 35 134 rfl) ?_
  refine j_bipush 7 dX12_looks_49 rfl (by decide) ?_
  refine j_aload_n dX12_looks_51 rfl rfl ?_
  refine j_getI (ci := 12) (N := 80) (f := 18) (T := TX12) dX12_looks_52 rfl (hG 112 (17, 80) rfl) rfl (by decide) fl_X12_263 rfl ?_
  refine j_imul dX12_looks_55 rfl ?_
  refine j_iload_n dX12_looks_56 rfl rfl ?_
  refine j_iadd dX12_looks_57 rfl ?_
  refine j_iald' (j := (Int32.toNatClampNeg ((7 * (μ.1 112 18)) + x1))) dX12_looks_58 rfl (hG 134 (0, 14) rfl) o0 rfl ?_
  refine j_iast' (j := 2) dX12_looks_59 rfl (hG 149 (0, 9) rfl) (vpK (by decide)) (by decide) ?_
  refine j_aload_n dX12_looks_60 rfl rfl ?_
  refine j_getR (ci := 12) (N := 80) (f := 53) (T := TX12) 149 dX12_looks_61 rfl (hG 112 (17, 80) rfl) rfl (by decide) fl_X12_128 rfl (hP 112 53 149 rfl) ?_
  refine j_iconst 3 dX12_looks_64 rfl (by decide) ?_
  refine j_aload_n dX12_looks_65 rfl rfl ?_
  refine j_cV (as := []) (rest := [.int 3, .ref 149]) dX12_looks_66 rfl vw_X12_372 (hG 112 (17, 80) rfl) rfl ⟨Nat.le_of_ble_eq_true rfl, Nat.le_of_ble_eq_true rfl⟩ rfl rfl (fun _ _ => Nat.le_of_ble_eq_true rfl) (e0 ) (fun r μ' hr => ?_)
  obtain ⟨v, rfl, hr⟩ := hr
  refine j_forget (ls' := [.ref 112, .null, .int x2]) ⟨Or.inr rfl, Or.inl rfl, Or.inr rfl, trivial⟩ ?_
  exact k0  v μ' hr
theorem b_X12_looks_69 {l : Launch} {G : jG} {μ : jM} {φ : jM → Prop} {x2 z0 z1 : Int32} {ψ0 : Int32 → jM → Prop} {ψ1 : Int32 → jM → Prop} (hG : gMM G) (hP : gNN μ) 
    (o0 : (z0 = (0 : Int32)) → vp_in z1 9) 
    (e0 : (z0 = (0 : Int32)) → jC0 l mX12_rateOn 0 G [.ref 112, .int x2] (wI μ 149 (Int32.toNatClampNeg z1) 0) (pI ψ0)) 
    (k0 : (z0 = (0 : Int32)) → ∀ v μ', ψ0 v μ' → J l mX12_looks (jZ0 2 G (pV φ)) G 0 0 88 [.ref 112, .null, .int x2] [.int v, .int 4, .ref 149] μ') 
    (o1 : (¬ (z0 = (0 : Int32))) → vp_in z1 9) 
    (e1 : (¬ (z0 = (0 : Int32))) → jC0 l mX12_rateOn 0 G [.ref 112, .int x2] (wI μ 149 (Int32.toNatClampNeg z1) 1) (pI ψ1)) 
    (k1 : (¬ (z0 = (0 : Int32))) → ∀ v μ', ψ1 v μ' → J l mX12_looks (jZ0 2 G (pV φ)) G 0 0 88 [.ref 112, .null, .int x2] [.int v, .int 4, .ref 149] μ') :
    J l mX12_looks (jZ0 2 G (pV φ)) G 0 0 69 [.ref 112, .null, .int x2] [.int z0, .int z1, .ref 149] μ := by
  refine j_if_eq 76 dX12_looks_69 rfl (by decide) (fun c0 => ?_) (fun c0 => ?_)
  · skip
    refine j_iconst 0 dX12_looks_76 rfl (by decide) ?_
    refine j_iast' (j := (Int32.toNatClampNeg z1)) dX12_looks_77 rfl (hG 149 (0, 9) rfl) (o0 c0) rfl ?_
    refine j_aload_n dX12_looks_78 rfl rfl ?_
    refine j_getR (ci := 12) (N := 80) (f := 53) (T := TX12) 149 dX12_looks_79 rfl (hG 112 (17, 80) rfl) rfl (by decide) fl_X12_128 rfl (hP 112 53 149 rfl) ?_
    refine j_iconst 4 dX12_looks_82 rfl (by decide) ?_
    refine j_aload_n dX12_looks_83 rfl rfl ?_
    refine j_iload_n dX12_looks_84 rfl rfl ?_
    refine j_cV (as := [.int x2]) (rest := [.int 4, .ref 149]) dX12_looks_85 rfl vw_X12_376 (hG 112 (17, 80) rfl) rfl ⟨Nat.le_of_ble_eq_true rfl, Nat.le_of_ble_eq_true rfl⟩ rfl rfl (fun _ _ => Nat.le_of_ble_eq_true rfl) (e0 c0) (fun r μ' hr => ?_)
    obtain ⟨v, rfl, hr⟩ := hr
    exact k0 c0 v μ' hr
  · skip
    refine j_iconst 1 dX12_looks_72 rfl (by decide) ?_
    refine j_goto 77 dX12_looks_73 (by decide) ?_
    refine j_iast' (j := (Int32.toNatClampNeg z1)) dX12_looks_77 rfl (hG 149 (0, 9) rfl) (o1 c0) rfl ?_
    refine j_aload_n dX12_looks_78 rfl rfl ?_
    refine j_getR (ci := 12) (N := 80) (f := 53) (T := TX12) 149 dX12_looks_79 rfl (hG 112 (17, 80) rfl) rfl (by decide) fl_X12_128 rfl (hP 112 53 149 rfl) ?_
    refine j_iconst 4 dX12_looks_82 rfl (by decide) ?_
    refine j_aload_n dX12_looks_83 rfl rfl ?_
    refine j_iload_n dX12_looks_84 rfl rfl ?_
    refine j_cV (as := [.int x2]) (rest := [.int 4, .ref 149]) dX12_looks_85 rfl vw_X12_376 (hG 112 (17, 80) rfl) rfl ⟨Nat.le_of_ble_eq_true rfl, Nat.le_of_ble_eq_true rfl⟩ rfl rfl (fun _ _ => Nat.le_of_ble_eq_true rfl) (e1 c0) (fun r μ' hr => ?_)
    obtain ⟨v, rfl, hr⟩ := hr
    exact k1 c0 v μ' hr
theorem b_X12_looks_88 {l : Launch} {G : jG} {μ : jM} {φ : jM → Prop} {x2 z0 z1 : Int32} (hG : gMM G) (hP : gNN μ) 
    (o0 : vp_in z1 9) 
    (o1 : vp_in ((12 * (μ.1 112 18)) + x2) 24) 
    (o2 : vp_in x2 68) 
    (k0 : φ (wI (wI (wI (wI (wI μ 149 (Int32.toNatClampNeg z1) z0) 149 5 (μ.1 126 (Int32.toNatClampNeg ((12 * (μ.1 112 18)) + x2)))) 149 6 (μ.1 152 (Int32.toNatClampNeg x2))) 149 7 x2) 149 8 (μ.1 152 67))) :
    J l mX12_looks (jZ0 2 G (pV φ)) G 0 0 88 [.ref 112, .null, .int x2] [.int z0, .int z1, .ref 149] μ := by
  refine j_iast' (j := (Int32.toNatClampNeg z1)) dX12_looks_88 rfl (hG 149 (0, 9) rfl) o0 rfl ?_
  refine j_aload_n dX12_looks_89 rfl rfl ?_
  refine j_getR (ci := 12) (N := 80) (f := 53) (T := TX12) 149 dX12_looks_90 rfl (hG 112 (17, 80) rfl) rfl (by decide) fl_X12_128 rfl (hP 112 53 149 rfl) ?_
  refine j_iconst 5 dX12_looks_93 rfl (by decide) ?_
  refine j_aload_n dX12_looks_94 rfl rfl ?_
  refine j_getR (ci := 12) (N := 80) (f := 27) (T := TX12) 126 dX12_looks_95 rfl (hG 112 (17, 80) rfl) rfl (by decide) fl_X12_58 rfl (hP 112 27 126 rfl) ?_
  refine j_bipush 12 dX12_looks_98 rfl (by decide) ?_
  refine j_aload_n dX12_looks_100 rfl rfl ?_
  refine j_getI (ci := 12) (N := 80) (f := 18) (T := TX12) dX12_looks_101 rfl (hG 112 (17, 80) rfl) rfl (by decide) fl_X12_263 rfl ?_
  refine j_imul dX12_looks_104 rfl ?_
  refine j_iload_n dX12_looks_105 rfl rfl ?_
  refine j_iadd dX12_looks_106 rfl ?_
  refine j_iald' (j := (Int32.toNatClampNeg ((12 * (μ.1 112 18)) + x2))) dX12_looks_107 rfl (hG 126 (0, 24) rfl) o1 rfl ?_
  refine j_iast' (j := 5) dX12_looks_108 rfl (hG 149 (0, 9) rfl) (vpK (by decide)) (by decide) ?_
  refine j_aload_n dX12_looks_109 rfl rfl ?_
  refine j_getR (ci := 12) (N := 80) (f := 53) (T := TX12) 149 dX12_looks_110 rfl (hG 112 (17, 80) rfl) rfl (by decide) fl_X12_128 rfl (hP 112 53 149 rfl) ?_
  refine j_bipush 6 dX12_looks_113 rfl (by decide) ?_
  refine j_aload_n dX12_looks_115 rfl rfl ?_
  refine j_getR (ci := 12) (N := 80) (f := 57) (T := TX12) 152 dX12_looks_116 rfl (hG 112 (17, 80) rfl) rfl (by decide) fl_X12_137 rfl (hP 112 57 152 rfl) ?_
  refine j_iload_n dX12_looks_119 rfl rfl ?_
  refine j_iald' (j := (Int32.toNatClampNeg x2)) dX12_looks_120 rfl (hG 152 (0, 68) rfl) o2 rfl ?_
  refine j_iast' (j := 6) dX12_looks_121 rfl (hG 149 (0, 9) rfl) (vpK (by decide)) (by decide) ?_
  refine j_aload_n dX12_looks_122 rfl rfl ?_
  refine j_getR (ci := 12) (N := 80) (f := 53) (T := TX12) 149 dX12_looks_123 rfl (hG 112 (17, 80) rfl) rfl (by decide) fl_X12_128 rfl (hP 112 53 149 rfl) ?_
  refine j_bipush 7 dX12_looks_126 rfl (by decide) ?_
  refine j_iload_n dX12_looks_128 rfl rfl ?_
  refine j_iast' (j := 7) dX12_looks_129 rfl (hG 149 (0, 9) rfl) (vpK (by decide)) (by decide) ?_
  refine j_aload_n dX12_looks_130 rfl rfl ?_
  refine j_getR (ci := 12) (N := 80) (f := 53) (T := TX12) 149 dX12_looks_131 rfl (hG 112 (17, 80) rfl) rfl (by decide) fl_X12_128 rfl (hP 112 53 149 rfl) ?_
  refine j_bipush 8 dX12_looks_134 rfl (by decide) ?_
  refine j_aload_n dX12_looks_136 rfl rfl ?_
  refine j_getR (ci := 12) (N := 80) (f := 57) (T := TX12) 152 dX12_looks_137 rfl (hG 112 (17, 80) rfl) rfl (by decide) fl_X12_137 rfl (hP 112 57 152 rfl) ?_
  refine j_bipush 67 dX12_looks_140 rfl (by decide) ?_
  refine j_iald' (j := 67) dX12_looks_142 rfl (hG 152 (0, 68) rfl) (vpK (by decide)) (by decide) ?_
  refine j_iast' (j := 8) dX12_looks_143 rfl (hG 149 (0, 9) rfl) (vpK (by decide)) (by decide) ?_
  exact j_vret dX12_looks_144 rfl (k0 )
theorem b_X12_owesOn_0 {l : Launch} {G : jG} {μ : jM} {φ : Int32 → jM → Prop} {x1 x2 : Int32} {ψ0 : jM → Prop} (hG : gMM G) (hP : gNN μ) 
    (e0 : jC0 l mX12_looks 2 G [.ref 112, .int x1, .int x2] μ (pV ψ0)) 
    (k0 : ∀ μ', ψ0 μ' → J l mX12_owesOn (jZ0 3 G (pI φ)) G 0 0 6 [.ref 112, .null, .int x2] [] μ') :
    J l mX12_owesOn (jZ0 3 G (pI φ)) G 0 0 0 [.ref 112, .int x1, .int x2] [] μ := by
  refine j_aload_n dX12_owesOn_0 rfl rfl ?_
  refine j_iload_n dX12_owesOn_1 rfl rfl ?_
  refine j_iload_n dX12_owesOn_2 rfl rfl ?_
  refine j_cV (as := [.int x1, .int x2]) (rest := []) dX12_owesOn_3 rfl vw_X12_379 (hG 112 (17, 80) rfl) rfl ⟨Nat.le_of_ble_eq_true rfl, Nat.le_of_ble_eq_true rfl⟩ rfl rfl (fun _ _ => Nat.le_of_ble_eq_true rfl) (e0 ) (fun r μ' hr => ?_)
  obtain ⟨rfl, hr⟩ := hr
  refine j_forget (ls' := [.ref 112, .null, .int x2]) ⟨Or.inr rfl, Or.inl rfl, Or.inr rfl, trivial⟩ ?_
  exact k0  μ' hr
theorem b_X12_owesOn_6 {l : Launch} {G : jG} {μ : jM} {φ : Int32 → jM → Prop} {x2 : Int32} {ψ0 : Int32 → jM → Prop} (hG : gMM G) (hP : gNN μ) 
    (e0 : jC0 l mX12_rateOn 0 G [.ref 112, .int x2] μ (pI ψ0)) 
    (k0 : ∀ v μ', ψ0 v μ' → J l mX12_owesOn (jZ0 3 G (pI φ)) G 0 0 13 [.null, .null, .null] [.int v, .int 0, .ref 112] μ') :
    J l mX12_owesOn (jZ0 3 G (pI φ)) G 0 0 6 [.ref 112, .null, .int x2] [] μ := by
  refine j_aload_n dX12_owesOn_6 rfl rfl ?_
  refine j_iconst 0 dX12_owesOn_7 rfl (by decide) ?_
  refine j_aload_n dX12_owesOn_8 rfl rfl ?_
  refine j_iload_n dX12_owesOn_9 rfl rfl ?_
  refine j_cV (as := [.int x2]) (rest := [.int 0, .ref 112]) dX12_owesOn_10 rfl vw_X12_376 (hG 112 (17, 80) rfl) rfl ⟨Nat.le_of_ble_eq_true rfl, Nat.le_of_ble_eq_true rfl⟩ rfl rfl (fun _ _ => Nat.le_of_ble_eq_true rfl) (e0 ) (fun r μ' hr => ?_)
  obtain ⟨v, rfl, hr⟩ := hr
  refine j_forget (ls' := [.null, .null, .null]) ⟨Or.inl rfl, Or.inr rfl, Or.inl rfl, trivial⟩ ?_
  exact k0  v μ' hr
theorem b_X12_owesOn_13 {l : Launch} {G : jG} {μ : jM} {φ : Int32 → jM → Prop} {z0 z1 : Int32} {ψ0 : Int32 → jM → Prop} (hG : gMM G) (hP : gNN μ) 
    (e0 : jC0 l mX12_asks 1 G [.ref 112, .int z1, .int z0, .int 99] μ (pI ψ0)) 
    (k0 : ∀ v μ', ψ0 v μ' → J l mX12_owesOn (jZ0 3 G (pI φ)) G 0 0 18 [.null, .null, .null] [.int v] μ') :
    J l mX12_owesOn (jZ0 3 G (pI φ)) G 0 0 13 [.null, .null, .null] [.int z0, .int z1, .ref 112] μ := by
  refine j_bipush 99 dX12_owesOn_13 rfl (by decide) ?_
  refine j_cV (as := [.int z1, .int z0, .int 99]) (rest := []) dX12_owesOn_15 rfl vw_X12_382 (hG 112 (17, 80) rfl) rfl ⟨Nat.le_of_ble_eq_true rfl, Nat.le_of_ble_eq_true rfl⟩ rfl rfl (fun _ _ => Nat.le_of_ble_eq_true rfl) (e0 ) (fun r μ' hr => ?_)
  obtain ⟨v, rfl, hr⟩ := hr
  exact k0  v μ' hr
theorem b_X12_owesOn_18 {l : Launch} {G : jG} {μ : jM} {φ : Int32 → jM → Prop} {z0 : Int32} (hG : gMM G) (hP : gNN μ) 
    (k0 : φ z0 μ) :
    J l mX12_owesOn (jZ0 3 G (pI φ)) G 0 0 18 [.null, .null, .null] [.int z0] μ := by
  exact j_iret dX12_owesOn_18 rfl (k0 )
theorem b_X12_costOf_0 {l : Launch} {G : jG} {μ : jM} {φ : Int32 → jM → Prop} {x1 x2 : Int32} {ψ0 : Int32 → jM → Prop} (hG : gMM G) (hP : gNN μ) 
    (o0 : vp_in ((12 * (μ.1 112 18)) + x2) 24) 
    (e0 : jC0 l mX12_hasGate 0 G [.ref 112, .int x2] μ (pI ψ0)) 
    (k0 : ∀ v μ', ψ0 v μ' → J l mX12_costOf (jZ0 4 G (pI φ)) G 0 0 20 [.ref 112, .int x1, .int x2, .int (μ.1 126 (Int32.toNatClampNeg ((12 * (μ.1 112 18)) + x2)))] [.int v] μ') :
    J l mX12_costOf (jZ0 4 G (pI φ)) G 0 0 0 [.ref 112, .int x1, .int x2, .null] [] μ := by
  refine j_aload_n dX12_costOf_0 rfl rfl ?_
  refine j_getR (ci := 12) (N := 80) (f := 27) (T := TX12) 126 dX12_costOf_1 rfl (hG 112 (17, 80) rfl) rfl (by decide) fl_X12_58 rfl (hP 112 27 126 rfl) ?_
  refine j_bipush 12 dX12_costOf_4 rfl (by decide) ?_
  refine j_aload_n dX12_costOf_6 rfl rfl ?_
  refine j_getI (ci := 12) (N := 80) (f := 18) (T := TX12) dX12_costOf_7 rfl (hG 112 (17, 80) rfl) rfl (by decide) fl_X12_263 rfl ?_
  refine j_imul dX12_costOf_10 rfl ?_
  refine j_iload_n dX12_costOf_11 rfl rfl ?_
  refine j_iadd dX12_costOf_12 rfl ?_
  refine j_iald' (j := (Int32.toNatClampNeg ((12 * (μ.1 112 18)) + x2))) dX12_costOf_13 rfl (hG 126 (0, 24) rfl) o0 rfl ?_
  refine j_istore_n (ls' := [.ref 112, .int x1, .int x2, .int (μ.1 126 (Int32.toNatClampNeg ((12 * (μ.1 112 18)) + x2)))]) dX12_costOf_14 rfl rfl (Nat.le_of_ble_eq_true rfl) rfl ?_
  refine j_aload_n dX12_costOf_15 rfl rfl ?_
  refine j_iload_n dX12_costOf_16 rfl rfl ?_
  refine j_cV (as := [.int x2]) (rest := []) dX12_costOf_17 rfl vw_X12_385 (hG 112 (17, 80) rfl) rfl ⟨Nat.le_of_ble_eq_true rfl, Nat.le_of_ble_eq_true rfl⟩ rfl rfl (fun _ _ => Nat.le_of_ble_eq_true rfl) (e0 ) (fun r μ' hr => ?_)
  obtain ⟨v, rfl, hr⟩ := hr
  exact k0  v μ' hr
theorem b_X12_costOf_20 {l : Launch} {G : jG} {μ : jM} {φ : Int32 → jM → Prop} {x1 x2 x3 z0 : Int32} {ψ0 : Int32 → jM → Prop} {ψ1 : Int32 → jM → Prop} (hG : gMM G) (hP : gNN μ) 
    (e0 : (z0 = (0 : Int32)) → jC0 l mX12_overField 0 G [.ref 112, .int x2] μ (pI ψ0)) 
    (k0 : (z0 = (0 : Int32)) → ∀ v μ', ψ0 v μ' → J l mX12_costOf (jZ0 4 G (pI φ)) G 0 0 37 [.ref 112, .int x1, .int x2, .int x3] [.int v] μ') 
    (e1 : (¬ (z0 = (0 : Int32))) → jC0 l mX12_owesOn 3 G [.ref 112, .int x1, .int x2] μ (pI ψ1)) 
    (k1 : (¬ (z0 = (0 : Int32))) → ∀ v μ', ψ1 v μ' → J l mX12_costOf (jZ0 4 G (pI φ)) G 0 0 30 [.ref 112, .int x1, .int x2, .null] [.int v, .int x3] μ') :
    J l mX12_costOf (jZ0 4 G (pI φ)) G 0 0 20 [.ref 112, .int x1, .int x2, .int x3] [.int z0] μ := by
  refine j_if_eq 32 dX12_costOf_20 rfl (by decide) (fun c0 => ?_) (fun c0 => ?_)
  · skip
    refine j_aload_n dX12_costOf_32 rfl rfl ?_
    refine j_iload_n dX12_costOf_33 rfl rfl ?_
    refine j_cV (as := [.int x2]) (rest := []) dX12_costOf_34 rfl vw_X12_391 (hG 112 (17, 80) rfl) rfl ⟨Nat.le_of_ble_eq_true rfl, Nat.le_of_ble_eq_true rfl⟩ rfl rfl (fun _ _ => Nat.le_of_ble_eq_true rfl) (e0 c0) (fun r μ' hr => ?_)
    obtain ⟨v, rfl, hr⟩ := hr
    exact k0 c0 v μ' hr
  · skip
    refine j_iload_n dX12_costOf_23 rfl rfl ?_
    refine j_aload_n dX12_costOf_24 rfl rfl ?_
    refine j_iload_n dX12_costOf_25 rfl rfl ?_
    refine j_iload_n dX12_costOf_26 rfl rfl ?_
    refine j_cV (as := [.int x1, .int x2]) (rest := [.int x3]) dX12_costOf_27 rfl vw_X12_388 (hG 112 (17, 80) rfl) rfl ⟨Nat.le_of_ble_eq_true rfl, Nat.le_of_ble_eq_true rfl⟩ rfl rfl (fun _ _ => Nat.le_of_ble_eq_true rfl) (e1 c0) (fun r μ' hr => ?_)
    obtain ⟨v, rfl, hr⟩ := hr
    refine j_forget (ls' := [.ref 112, .int x1, .int x2, .null]) ⟨Or.inr rfl, Or.inr rfl, Or.inr rfl, Or.inl rfl, trivial⟩ ?_
    exact k1 c0 v μ' hr
theorem b_X12_costOf_30 {l : Launch} {G : jG} {μ : jM} {φ : Int32 → jM → Prop} {x1 x2 z0 z1 : Int32} {ψ0 : Int32 → jM → Prop} (hG : gMM G) (hP : gNN μ) 
    (e0 : jC0 l mX12_overField 0 G [.ref 112, .int x2] μ (pI ψ0)) 
    (k0 : ∀ v μ', ψ0 v μ' → J l mX12_costOf (jZ0 4 G (pI φ)) G 0 0 37 [.ref 112, .int x1, .int x2, .int (z1 + z0)] [.int v] μ') :
    J l mX12_costOf (jZ0 4 G (pI φ)) G 0 0 30 [.ref 112, .int x1, .int x2, .null] [.int z0, .int z1] μ := by
  refine j_iadd dX12_costOf_30 rfl ?_
  refine j_istore_n (ls' := [.ref 112, .int x1, .int x2, .int (z1 + z0)]) dX12_costOf_31 rfl rfl (Nat.le_of_ble_eq_true rfl) rfl ?_
  refine j_aload_n dX12_costOf_32 rfl rfl ?_
  refine j_iload_n dX12_costOf_33 rfl rfl ?_
  refine j_cV (as := [.int x2]) (rest := []) dX12_costOf_34 rfl vw_X12_391 (hG 112 (17, 80) rfl) rfl ⟨Nat.le_of_ble_eq_true rfl, Nat.le_of_ble_eq_true rfl⟩ rfl rfl (fun _ _ => Nat.le_of_ble_eq_true rfl) (e0 ) (fun r μ' hr => ?_)
  obtain ⟨v, rfl, hr⟩ := hr
  exact k0  v μ' hr
theorem b_X12_costOf_37 {l : Launch} {G : jG} {μ : jM} {φ : Int32 → jM → Prop} {x1 x2 x3 z0 : Int32} {ψ1 : jM → Prop} (hG : gMM G) (hP : gNN μ) 
    (k0 : (z0 = (0 : Int32)) → φ x3 μ) 
    (e1 : (¬ (z0 = (0 : Int32))) → jC0 l mX12_looks 2 G [.ref 112, .int x1, .int x2] μ (pV ψ1)) 
    (k1 : (¬ (z0 = (0 : Int32))) → ∀ μ', ψ1 μ' → J l mX12_costOf (jZ0 4 G (pI φ)) G 0 0 46 [.ref 112, .null, .null, .int x3] [] μ') :
    J l mX12_costOf (jZ0 4 G (pI φ)) G 0 0 37 [.ref 112, .int x1, .int x2, .int x3] [.int z0] μ := by
  refine j_if_eq 57 dX12_costOf_37 rfl (by decide) (fun c0 => ?_) (fun c0 => ?_)
  · skip
    refine j_iload_n dX12_costOf_57 rfl rfl ?_
    exact j_iret dX12_costOf_58 rfl (k0 c0)
  · skip
    refine j_aload_n dX12_costOf_40 rfl rfl ?_
    refine j_iload_n dX12_costOf_41 rfl rfl ?_
    refine j_iload_n dX12_costOf_42 rfl rfl ?_
    refine j_cV (as := [.int x1, .int x2]) (rest := []) dX12_costOf_43 rfl vw_X12_379 (hG 112 (17, 80) rfl) rfl ⟨Nat.le_of_ble_eq_true rfl, Nat.le_of_ble_eq_true rfl⟩ rfl rfl (fun _ _ => Nat.le_of_ble_eq_true rfl) (e1 c0) (fun r μ' hr => ?_)
    obtain ⟨rfl, hr⟩ := hr
    refine j_forget (ls' := [.ref 112, .null, .null, .int x3]) ⟨Or.inr rfl, Or.inl rfl, Or.inl rfl, Or.inr rfl, trivial⟩ ?_
    exact k1 c0 μ' hr
theorem b_X12_costOf_46 {l : Launch} {G : jG} {μ : jM} {φ : Int32 → jM → Prop} {x3 : Int32} {ψ0 : Int32 → jM → Prop} (hG : gMM G) (hP : gNN μ) 
    (e0 : jC0 l mX12_asks 1 G [.ref 112, .int 1, .int 5, .int 99] μ (pI ψ0)) 
    (k0 : ∀ v μ', ψ0 v μ' → J l mX12_costOf (jZ0 4 G (pI φ)) G 0 0 55 [.null, .null, .null, .null] [.int v, .int x3] μ') :
    J l mX12_costOf (jZ0 4 G (pI φ)) G 0 0 46 [.ref 112, .null, .null, .int x3] [] μ := by
  refine j_iload_n dX12_costOf_46 rfl rfl ?_
  refine j_aload_n dX12_costOf_47 rfl rfl ?_
  refine j_iconst 1 dX12_costOf_48 rfl (by decide) ?_
  refine j_iconst 5 dX12_costOf_49 rfl (by decide) ?_
  refine j_bipush 99 dX12_costOf_50 rfl (by decide) ?_
  refine j_cV (as := [.int 1, .int 5, .int 99]) (rest := [.int x3]) dX12_costOf_52 rfl vw_X12_382 (hG 112 (17, 80) rfl) rfl ⟨Nat.le_of_ble_eq_true rfl, Nat.le_of_ble_eq_true rfl⟩ rfl rfl (fun _ _ => Nat.le_of_ble_eq_true rfl) (e0 ) (fun r μ' hr => ?_)
  obtain ⟨v, rfl, hr⟩ := hr
  refine j_forget (ls' := [.null, .null, .null, .null]) ⟨Or.inl rfl, Or.inr rfl, Or.inr rfl, Or.inl rfl, trivial⟩ ?_
  exact k0  v μ' hr
theorem b_X12_costOf_55 {l : Launch} {G : jG} {μ : jM} {φ : Int32 → jM → Prop} {z0 z1 : Int32} (hG : gMM G) (hP : gNN μ) 
    (k0 : φ (z1 + z0) μ) :
    J l mX12_costOf (jZ0 4 G (pI φ)) G 0 0 55 [.null, .null, .null, .null] [.int z0, .int z1] μ := by
  refine j_iadd dX12_costOf_55 rfl ?_
  refine j_istore_n (ls' := [.null, .null, .null, .int (z1 + z0)]) dX12_costOf_56 rfl rfl (Nat.le_of_ble_eq_true rfl) rfl ?_
  refine j_iload_n dX12_costOf_57 rfl rfl ?_
  exact j_iret dX12_costOf_58 rfl (k0 )
theorem b_X12_isDown_0 {l : Launch} {G : jG} {μ : jM} {φ : Int32 → jM → Prop} {x1 : Int32} (hG : gMM G) (hP : gNN μ) 
    (k0 : J l mX12_isDown (jZ0 2 G (pI φ)) G 0 0 2 [.ref 112, .int x1, .int 0] [] μ) :
    J l mX12_isDown (jZ0 2 G (pI φ)) G 0 0 0 [.ref 112, .int x1, .null] [] μ := by
  refine j_iconst 0 dX12_isDown_0 rfl (by decide) ?_
  refine j_istore_n (ls' := [.ref 112, .int x1, .int 0]) dX12_isDown_1 rfl rfl (Nat.le_of_ble_eq_true rfl) rfl ?_
  exact k0 
theorem b_X12_isDown_2 {l : Launch} {G : jG} {μ : jM} {φ : Int32 → jM → Prop} {x1 x2 : Int32} {ψ0 : Int32 → jM → Prop} (hG : gMM G) (hP : gNN μ) 
    (o0 : (9 ≤ (x2 : Int32)) → vp_in ((12 * (μ.1 112 18)) + x1) 24) 
    (o1 : (9 ≤ (x2 : Int32)) → vp_in x1 68) 
    (e0 : (9 ≤ (x2 : Int32)) → jC0 l mX12_asks 1 G [.ref 112, .int 2, .int 99, .int 999] (wI (wI (wI μ 149 5 (μ.1 126 (Int32.toNatClampNeg ((12 * (μ.1 112 18)) + x1)))) 149 7 x1) 149 8 (μ.1 152 67)) (pI ψ0)) 
    (k0 : (9 ≤ (x2 : Int32)) → ∀ v μ', ψ0 v μ' → J l mX12_isDown (jZ0 2 G (pI φ)) G 0 0 79 [.null, .null, .null] [.int v, .int (μ.1 152 (Int32.toNatClampNeg x1))] μ') 
    (o2 : (¬ (9 ≤ (x2 : Int32))) → vp_in x2 9) 
    (k1 : (¬ (9 ≤ (x2 : Int32))) → J l mX12_isDown (jZ0 2 G (pI φ)) G 0 0 2 [.ref 112, .int x1, .int (x2 + 1)] [] (wI μ 149 (Int32.toNatClampNeg x2) 0)) :
    J l mX12_isDown (jZ0 2 G (pI φ)) G 0 0 2 [.ref 112, .int x1, .int x2] [] μ := by
  refine j_iload_n dX12_isDown_2 rfl rfl ?_
  refine j_bipush 9 dX12_isDown_3 rfl (by decide) ?_
  refine j_icmp_ge 21 dX12_isDown_5 rfl (by decide) (fun c0 => ?_) (fun c0 => ?_)
  · skip
    refine j_aload_n dX12_isDown_21 rfl rfl ?_
    refine j_getR (ci := 12) (N := 80) (f := 53) (T := TX12) 149 dX12_isDown_22 rfl (hG 112 (17, 80) rfl) rfl (by decide) fl_X12_128 rfl (hP 112 53 149 rfl) ?_
    refine j_iconst 5 dX12_isDown_25 rfl (by decide) ?_
    refine j_aload_n dX12_isDown_26 rfl rfl ?_
    refine j_getR (ci := 12) (N := 80) (f := 27) (T := TX12) 126 dX12_isDown_27 rfl (hG 112 (17, 80) rfl) rfl (by decide) fl_X12_58 rfl (hP 112 27 126 rfl) ?_
    refine j_bipush 12 dX12_isDown_30 rfl (by decide) ?_
    refine j_aload_n dX12_isDown_32 rfl rfl ?_
    refine j_getI (ci := 12) (N := 80) (f := 18) (T := TX12) dX12_isDown_33 rfl (hG 112 (17, 80) rfl) rfl (by decide) fl_X12_263 rfl ?_
    refine j_imul dX12_isDown_36 rfl ?_
    refine j_iload_n dX12_isDown_37 rfl rfl ?_
    refine j_iadd dX12_isDown_38 rfl ?_
    refine j_iald' (j := (Int32.toNatClampNeg ((12 * (μ.1 112 18)) + x1))) dX12_isDown_39 rfl (hG 126 (0, 24) rfl) (o0 c0) rfl ?_
    refine j_iast' (j := 5) dX12_isDown_40 rfl (hG 149 (0, 9) rfl) (vpK (by decide)) (by decide) ?_
    refine j_aload_n dX12_isDown_41 rfl rfl ?_
    refine j_getR (ci := 12) (N := 80) (f := 53) (T := TX12) 149 dX12_isDown_42 rfl (hG 112 (17, 80) rfl) rfl (by decide) fl_X12_128 rfl (hP 112 53 149 rfl) ?_
    refine j_bipush 7 dX12_isDown_45 rfl (by decide) ?_
    refine j_iload_n dX12_isDown_47 rfl rfl ?_
    refine j_iast' (j := 7) dX12_isDown_48 rfl (hG 149 (0, 9) rfl) (vpK (by decide)) (by decide) ?_
    refine j_aload_n dX12_isDown_49 rfl rfl ?_
    refine j_getR (ci := 12) (N := 80) (f := 53) (T := TX12) 149 dX12_isDown_50 rfl (hG 112 (17, 80) rfl) rfl (by decide) fl_X12_128 rfl (hP 112 53 149 rfl) ?_
    refine j_bipush 8 dX12_isDown_53 rfl (by decide) ?_
    refine j_aload_n dX12_isDown_55 rfl rfl ?_
    refine j_getR (ci := 12) (N := 80) (f := 57) (T := TX12) 152 dX12_isDown_56 rfl (hG 112 (17, 80) rfl) rfl (by decide) fl_X12_137 rfl (hP 112 57 152 rfl) ?_
    refine j_bipush 67 dX12_isDown_59 rfl (by decide) ?_
    refine j_iald' (j := 67) dX12_isDown_61 rfl (hG 152 (0, 68) rfl) (vpK (by decide)) (by decide) ?_
    refine j_iast' (j := 8) dX12_isDown_62 rfl (hG 149 (0, 9) rfl) (vpK (by decide)) (by decide) ?_
    refine j_aload_n dX12_isDown_63 rfl rfl ?_
    refine j_getR (ci := 12) (N := 80) (f := 57) (T := TX12) 152 dX12_isDown_64 rfl (hG 112 (17, 80) rfl) rfl (by decide) fl_X12_137 rfl (hP 112 57 152 rfl) ?_
    refine j_iload_n dX12_isDown_67 rfl rfl ?_
    refine j_iald' (j := (Int32.toNatClampNeg x1)) dX12_isDown_68 rfl (hG 152 (0, 68) rfl) (o1 c0) rfl ?_
    refine j_aload_n dX12_isDown_69 rfl rfl ?_
    refine j_iconst 2 dX12_isDown_70 rfl (by decide) ?_
    refine j_bipush 99 dX12_isDown_71 rfl (by decide) ?_
    refine j_sipush 999 dX12_isDown_73 rfl (by decide) ?_
    refine j_cV (as := [.int 2, .int 99, .int 999]) (rest := [.int (μ.1 152 (Int32.toNatClampNeg x1))]) dX12_isDown_76 rfl vw_X12_382 (hG 112 (17, 80) rfl) rfl ⟨Nat.le_of_ble_eq_true rfl, Nat.le_of_ble_eq_true rfl⟩ rfl rfl (fun _ _ => Nat.le_of_ble_eq_true rfl) (e0 c0) (fun r μ' hr => ?_)
    obtain ⟨v, rfl, hr⟩ := hr
    refine j_forget (ls' := [.null, .null, .null]) ⟨Or.inl rfl, Or.inl rfl, Or.inl rfl, trivial⟩ ?_
    exact k0 c0 v μ' hr
  · skip
    refine j_aload_n dX12_isDown_8 rfl rfl ?_
    refine j_getR (ci := 12) (N := 80) (f := 53) (T := TX12) 149 dX12_isDown_9 rfl (hG 112 (17, 80) rfl) rfl (by decide) fl_X12_128 rfl (hP 112 53 149 rfl) ?_
    refine j_iload_n dX12_isDown_12 rfl rfl ?_
    refine j_iconst 0 dX12_isDown_13 rfl (by decide) ?_
    refine j_iast' (j := (Int32.toNatClampNeg x2)) dX12_isDown_14 rfl (hG 149 (0, 9) rfl) (o2 c0) rfl ?_
    refine j_iinc (x2 + 1) (ls' := [.ref 112, .int x1, .int (x2 + 1)]) dX12_isDown_15 rfl rfl rfl (Nat.le_of_ble_eq_true rfl) rfl ?_
    refine j_goto 2 dX12_isDown_18 (by decide) ?_
    exact k1 c0
theorem b_X12_isDown_79 {l : Launch} {G : jG} {μ : jM} {φ : Int32 → jM → Prop} {z0 z1 : Int32} (hG : gMM G) (hP : gNN μ) 
    (k0 : (z1 < (z0 : Int32)) → φ 0 μ) 
    (k1 : (¬ (z1 < (z0 : Int32))) → φ 1 μ) :
    J l mX12_isDown (jZ0 2 G (pI φ)) G 0 0 79 [.null, .null, .null] [.int z0, .int z1] μ := by
  refine j_icmp_lt 86 dX12_isDown_79 rfl (by decide) (fun c0 => ?_) (fun c0 => ?_)
  · skip
    refine j_iconst 0 dX12_isDown_86 rfl (by decide) ?_
    exact j_zret dX12_isDown_87 rfl (by decide) (k0 c0)
  · skip
    refine j_iconst 1 dX12_isDown_82 rfl (by decide) ?_
    refine j_goto 87 dX12_isDown_83 (by decide) ?_
    exact j_zret dX12_isDown_87 rfl (by decide) (k1 c0)
theorem b_X12_fillsCosts_0 {l : Launch} {G : jG} {μ : jM} {φ : jM → Prop} {x1 : Int32} (hG : gMM G) (hP : gNN μ) 
    (k0 : J l mX12_fillsCosts (jZ0 5 G (pV φ)) G 0 0 2 [.ref 112, .int x1, .int 0] [] μ) :
    J l mX12_fillsCosts (jZ0 5 G (pV φ)) G 0 0 0 [.ref 112, .int x1, .null] [] μ := by
  refine j_iconst 0 dX12_fillsCosts_0 rfl (by decide) ?_
  refine j_istore_n (ls' := [.ref 112, .int x1, .int 0]) dX12_fillsCosts_1 rfl rfl (Nat.le_of_ble_eq_true rfl) rfl ?_
  exact k0 
theorem b_X12_fillsCosts_2 {l : Launch} {G : jG} {μ : jM} {φ : jM → Prop} {x1 x2 : Int32} {ψ1 : Int32 → jM → Prop} (hG : gMM G) (hP : gNN μ) 
    (o0 : vp_in (μ.1 112 18) 2) 
    (k0 : ((μ.1 123 (Int32.toNatClampNeg (μ.1 112 18))) ≤ (x2 : Int32)) → φ μ) 
    (e1 : (¬ ((μ.1 123 (Int32.toNatClampNeg (μ.1 112 18))) ≤ (x2 : Int32))) → jC0 l mX12_isDown 2 G [.ref 112, .int x2] μ (pI ψ1)) 
    (k1 : (¬ ((μ.1 123 (Int32.toNatClampNeg (μ.1 112 18))) ≤ (x2 : Int32))) → ∀ v μ', ψ1 v μ' → J l mX12_fillsCosts (jZ0 5 G (pV φ)) G 0 0 25 [.ref 112, .int x1, .int x2] [.int v, .int x2, .ref 154] μ') :
    J l mX12_fillsCosts (jZ0 5 G (pV φ)) G 0 0 2 [.ref 112, .int x1, .int x2] [] μ := by
  refine j_iload_n dX12_fillsCosts_2 rfl rfl ?_
  refine j_aload_n dX12_fillsCosts_3 rfl rfl ?_
  refine j_getR (ci := 12) (N := 80) (f := 24) (T := TX12) 123 dX12_fillsCosts_4 rfl (hG 112 (17, 80) rfl) rfl (by decide) fl_X12_49 rfl (hP 112 24 123 rfl) ?_
  refine j_aload_n dX12_fillsCosts_7 rfl rfl ?_
  refine j_getI (ci := 12) (N := 80) (f := 18) (T := TX12) dX12_fillsCosts_8 rfl (hG 112 (17, 80) rfl) rfl (by decide) fl_X12_263 rfl ?_
  refine j_iald' (j := (Int32.toNatClampNeg (μ.1 112 18))) dX12_fillsCosts_11 rfl (hG 123 (0, 2) rfl) o0 rfl ?_
  refine j_icmp_ge 69 dX12_fillsCosts_12 rfl (by decide) (fun c0 => ?_) (fun c0 => ?_)
  · skip
    exact j_vret dX12_fillsCosts_69 rfl (k0 c0)
  · skip
    refine j_aload_n dX12_fillsCosts_15 rfl rfl ?_
    refine j_getR (ci := 12) (N := 80) (f := 62) (T := TX12) 154 dX12_fillsCosts_16 rfl (hG 112 (17, 80) rfl) rfl (by decide) fl_X12_143 rfl (hP 112 62 154 rfl) ?_
    refine j_iload_n dX12_fillsCosts_19 rfl rfl ?_
    refine j_aload_n dX12_fillsCosts_20 rfl rfl ?_
    refine j_iload_n dX12_fillsCosts_21 rfl rfl ?_
    refine j_cV (as := [.int x2]) (rest := [.int x2, .ref 154]) dX12_fillsCosts_22 rfl vw_X12_394 (hG 112 (17, 80) rfl) rfl ⟨Nat.le_of_ble_eq_true rfl, Nat.le_of_ble_eq_true rfl⟩ rfl rfl (fun _ _ => Nat.le_of_ble_eq_true rfl) (e1 c0) (fun r μ' hr => ?_)
    obtain ⟨v, rfl, hr⟩ := hr
    exact k1 c0 v μ' hr
theorem b_X12_fillsCosts_25 {l : Launch} {G : jG} {μ : jM} {φ : jM → Prop} {x1 x2 z0 z1 : Int32} {ψ0 : Int32 → jM → Prop} {ψ1 : Int32 → jM → Prop} (hG : gMM G) (hP : gNN μ) 
    (e0 : (z0 = (0 : Int32)) → jC0 l mX12_costOf 4 G [.ref 112, .int x1, .int x2] μ (pI ψ0)) 
    (k0 : (z0 = (0 : Int32)) → ∀ v μ', ψ0 v μ' → J l mX12_fillsCosts (jZ0 5 G (pV φ)) G 0 0 38 [.ref 112, .int x1, .int x2] [.int v, .int z1, .ref 154] μ') 
    (o0 : (¬ (z0 = (0 : Int32))) → vp_in z1 12) 
    (e1 : (¬ (z0 = (0 : Int32))) → jC0 l mX12_hasGate 0 G [.ref 112, .int x2] (wI μ 154 (Int32.toNatClampNeg z1) (-1)) (pI ψ1)) 
    (k1 : (¬ (z0 = (0 : Int32))) → ∀ v μ', ψ1 v μ' → J l mX12_fillsCosts (jZ0 5 G (pV φ)) G 0 0 49 [.ref 112, .int x1, .int x2] [.int v, .int x2, .ref 155] μ') :
    J l mX12_fillsCosts (jZ0 5 G (pV φ)) G 0 0 25 [.ref 112, .int x1, .int x2] [.int z0, .int z1, .ref 154] μ := by
  refine j_if_eq 32 dX12_fillsCosts_25 rfl (by decide) (fun c0 => ?_) (fun c0 => ?_)
  · skip
    refine j_aload_n dX12_fillsCosts_32 rfl rfl ?_
    refine j_iload_n dX12_fillsCosts_33 rfl rfl ?_
    refine j_iload_n dX12_fillsCosts_34 rfl rfl ?_
    refine j_cV (as := [.int x1, .int x2]) (rest := [.int z1, .ref 154]) dX12_fillsCosts_35 rfl vw_X12_397 (hG 112 (17, 80) rfl) rfl ⟨Nat.le_of_ble_eq_true rfl, Nat.le_of_ble_eq_true rfl⟩ rfl rfl (fun _ _ => Nat.le_of_ble_eq_true rfl) (e0 c0) (fun r μ' hr => ?_)
    obtain ⟨v, rfl, hr⟩ := hr
    exact k0 c0 v μ' hr
  · skip
    refine j_iconst (-1) dX12_fillsCosts_28 rfl (by decide) ?_
    refine j_goto 38 dX12_fillsCosts_29 (by decide) ?_
    refine j_iast' (j := (Int32.toNatClampNeg z1)) dX12_fillsCosts_38 rfl (hG 154 (0, 12) rfl) (o0 c0) rfl ?_
    refine j_aload_n dX12_fillsCosts_39 rfl rfl ?_
    refine j_getR (ci := 12) (N := 80) (f := 63) (T := TX12) 155 dX12_fillsCosts_40 rfl (hG 112 (17, 80) rfl) rfl (by decide) fl_X12_146 rfl (hP 112 63 155 rfl) ?_
    refine j_iload_n dX12_fillsCosts_43 rfl rfl ?_
    refine j_aload_n dX12_fillsCosts_44 rfl rfl ?_
    refine j_iload_n dX12_fillsCosts_45 rfl rfl ?_
    refine j_cV (as := [.int x2]) (rest := [.int x2, .ref 155]) dX12_fillsCosts_46 rfl vw_X12_385 (hG 112 (17, 80) rfl) rfl ⟨Nat.le_of_ble_eq_true rfl, Nat.le_of_ble_eq_true rfl⟩ rfl rfl (fun _ _ => Nat.le_of_ble_eq_true rfl) (e1 c0) (fun r μ' hr => ?_)
    obtain ⟨v, rfl, hr⟩ := hr
    exact k1 c0 v μ' hr
theorem b_X12_fillsCosts_38 {l : Launch} {G : jG} {μ : jM} {φ : jM → Prop} {x1 x2 z0 z1 : Int32} {ψ0 : Int32 → jM → Prop} (hG : gMM G) (hP : gNN μ) 
    (o0 : vp_in z1 12) 
    (e0 : jC0 l mX12_hasGate 0 G [.ref 112, .int x2] (wI μ 154 (Int32.toNatClampNeg z1) z0) (pI ψ0)) 
    (k0 : ∀ v μ', ψ0 v μ' → J l mX12_fillsCosts (jZ0 5 G (pV φ)) G 0 0 49 [.ref 112, .int x1, .int x2] [.int v, .int x2, .ref 155] μ') :
    J l mX12_fillsCosts (jZ0 5 G (pV φ)) G 0 0 38 [.ref 112, .int x1, .int x2] [.int z0, .int z1, .ref 154] μ := by
  refine j_iast' (j := (Int32.toNatClampNeg z1)) dX12_fillsCosts_38 rfl (hG 154 (0, 12) rfl) o0 rfl ?_
  refine j_aload_n dX12_fillsCosts_39 rfl rfl ?_
  refine j_getR (ci := 12) (N := 80) (f := 63) (T := TX12) 155 dX12_fillsCosts_40 rfl (hG 112 (17, 80) rfl) rfl (by decide) fl_X12_146 rfl (hP 112 63 155 rfl) ?_
  refine j_iload_n dX12_fillsCosts_43 rfl rfl ?_
  refine j_aload_n dX12_fillsCosts_44 rfl rfl ?_
  refine j_iload_n dX12_fillsCosts_45 rfl rfl ?_
  refine j_cV (as := [.int x2]) (rest := [.int x2, .ref 155]) dX12_fillsCosts_46 rfl vw_X12_385 (hG 112 (17, 80) rfl) rfl ⟨Nat.le_of_ble_eq_true rfl, Nat.le_of_ble_eq_true rfl⟩ rfl rfl (fun _ _ => Nat.le_of_ble_eq_true rfl) (e0 ) (fun r μ' hr => ?_)
  obtain ⟨v, rfl, hr⟩ := hr
  exact k0  v μ' hr
theorem b_X12_fillsCosts_49 {l : Launch} {G : jG} {μ : jM} {φ : jM → Prop} {x1 x2 z0 z1 : Int32} {ψ1 : Int32 → jM → Prop} (hG : gMM G) (hP : gNN μ) 
    (o0 : (z0 = (0 : Int32)) → vp_in z1 12) 
    (k0 : (z0 = (0 : Int32)) → J l mX12_fillsCosts (jZ0 5 G (pV φ)) G 0 0 2 [.ref 112, .int x1, .int (x2 + 1)] [] (wI μ 155 (Int32.toNatClampNeg z1) 0)) 
    (e1 : (¬ (z0 = (0 : Int32))) → jC0 l mX12_owesOn 3 G [.ref 112, .int x1, .int x2] μ (pI ψ1)) 
    (k1 : (¬ (z0 = (0 : Int32))) → ∀ v μ', ψ1 v μ' → J l mX12_fillsCosts (jZ0 5 G (pV φ)) G 0 0 58 [.ref 112, .int x1, .int x2] [.int v, .int z1, .ref 155] μ') :
    J l mX12_fillsCosts (jZ0 5 G (pV φ)) G 0 0 49 [.ref 112, .int x1, .int x2] [.int z0, .int z1, .ref 155] μ := by
  refine j_if_eq 61 dX12_fillsCosts_49 rfl (by decide) (fun c0 => ?_) (fun c0 => ?_)
  · skip
    refine j_iconst 0 dX12_fillsCosts_61 rfl (by decide) ?_
    refine j_iast' (j := (Int32.toNatClampNeg z1)) dX12_fillsCosts_62 rfl (hG 155 (0, 12) rfl) (o0 c0) rfl ?_
    refine j_iinc (x2 + 1) (ls' := [.ref 112, .int x1, .int (x2 + 1)]) dX12_fillsCosts_63 rfl rfl rfl (Nat.le_of_ble_eq_true rfl) rfl ?_
    refine j_goto 2 dX12_fillsCosts_66 (by decide) ?_
    exact k0 c0
  · skip
    refine j_aload_n dX12_fillsCosts_52 rfl rfl ?_
    refine j_iload_n dX12_fillsCosts_53 rfl rfl ?_
    refine j_iload_n dX12_fillsCosts_54 rfl rfl ?_
    refine j_cV (as := [.int x1, .int x2]) (rest := [.int z1, .ref 155]) dX12_fillsCosts_55 rfl vw_X12_388 (hG 112 (17, 80) rfl) rfl ⟨Nat.le_of_ble_eq_true rfl, Nat.le_of_ble_eq_true rfl⟩ rfl rfl (fun _ _ => Nat.le_of_ble_eq_true rfl) (e1 c0) (fun r μ' hr => ?_)
    obtain ⟨v, rfl, hr⟩ := hr
    exact k1 c0 v μ' hr
theorem b_X12_fillsCosts_58 {l : Launch} {G : jG} {μ : jM} {φ : jM → Prop} {x1 x2 z0 z1 : Int32} (hG : gMM G) (hP : gNN μ) 
    (o0 : vp_in z1 12) 
    (k0 : J l mX12_fillsCosts (jZ0 5 G (pV φ)) G 0 0 2 [.ref 112, .int x1, .int (x2 + 1)] [] (wI μ 155 (Int32.toNatClampNeg z1) z0)) :
    J l mX12_fillsCosts (jZ0 5 G (pV φ)) G 0 0 58 [.ref 112, .int x1, .int x2] [.int z0, .int z1, .ref 155] μ := by
  refine j_goto 62 dX12_fillsCosts_58 (by decide) ?_
  refine j_iast' (j := (Int32.toNatClampNeg z1)) dX12_fillsCosts_62 rfl (hG 155 (0, 12) rfl) o0 rfl ?_
  refine j_iinc (x2 + 1) (ls' := [.ref 112, .int x1, .int (x2 + 1)]) dX12_fillsCosts_63 rfl rfl rfl (Nat.le_of_ble_eq_true rfl) rfl ?_
  refine j_goto 2 dX12_fillsCosts_66 (by decide) ?_
  exact k0 
theorem b_X12_through_0 {l : Launch} {G : jG} {μ : jM} {φ : Int32 → jM → Prop} {x1 x2 : Int32} (hG : gMM G) (hP : gNN μ) 
    (o0 : vp_in ((12 * (μ.1 112 18)) + x1) 24) 
    (k0 : (¬ (μ.1 124 (Int32.toNatClampNeg ((12 * (μ.1 112 18)) + x1))) = (x2 : Int32)) → (¬ (μ.1 125 (Int32.toNatClampNeg ((12 * (μ.1 112 18)) + x1))) = (x2 : Int32)) → φ (-1) μ) 
    (k1 : (¬ (μ.1 124 (Int32.toNatClampNeg ((12 * (μ.1 112 18)) + x1))) = (x2 : Int32)) → ((μ.1 125 (Int32.toNatClampNeg ((12 * (μ.1 112 18)) + x1))) = (x2 : Int32)) → φ (μ.1 124 (Int32.toNatClampNeg ((12 * (μ.1 112 18)) + x1))) μ) 
    (k2 : ((μ.1 124 (Int32.toNatClampNeg ((12 * (μ.1 112 18)) + x1))) = (x2 : Int32)) → φ (μ.1 125 (Int32.toNatClampNeg ((12 * (μ.1 112 18)) + x1))) μ) :
    J l mX12_through (jZ0 0 G (pI φ)) G 0 0 0 [.ref 112, .int x1, .int x2, .null] [] μ := by
  refine j_bipush 12 dX12_through_0 rfl (by decide) ?_
  refine j_aload_n dX12_through_2 rfl rfl ?_
  refine j_getI (ci := 12) (N := 80) (f := 18) (T := TX12) dX12_through_3 rfl (hG 112 (17, 80) rfl) rfl (by decide) fl_X12_263 rfl ?_
  refine j_imul dX12_through_6 rfl ?_
  refine j_iload_n dX12_through_7 rfl rfl ?_
  refine j_iadd dX12_through_8 rfl ?_
  refine j_istore_n (ls' := [.ref 112, .int x1, .int x2, .int ((12 * (μ.1 112 18)) + x1)]) dX12_through_9 rfl rfl (Nat.le_of_ble_eq_true rfl) rfl ?_
  refine j_aload_n dX12_through_10 rfl rfl ?_
  refine j_getR (ci := 12) (N := 80) (f := 25) (T := TX12) 124 dX12_through_11 rfl (hG 112 (17, 80) rfl) rfl (by decide) fl_X12_52 rfl (hP 112 25 124 rfl) ?_
  refine j_iload_n dX12_through_14 rfl rfl ?_
  refine j_iald' (j := (Int32.toNatClampNeg ((12 * (μ.1 112 18)) + x1))) dX12_through_15 rfl (hG 124 (0, 24) rfl) o0 rfl ?_
  refine j_iload_n dX12_through_16 rfl rfl ?_
  refine j_icmp_ne 29 dX12_through_17 rfl (by decide) (fun c0 => ?_) (fun c0 => ?_)
  · skip
    refine j_aload_n dX12_through_29 rfl rfl ?_
    refine j_getR (ci := 12) (N := 80) (f := 26) (T := TX12) 125 dX12_through_30 rfl (hG 112 (17, 80) rfl) rfl (by decide) fl_X12_55 rfl (hP 112 26 125 rfl) ?_
    refine j_iload_n dX12_through_33 rfl rfl ?_
    refine j_iald' (j := (Int32.toNatClampNeg ((12 * (μ.1 112 18)) + x1))) dX12_through_34 rfl (hG 125 (0, 24) rfl) o0 rfl ?_
    refine j_iload_n dX12_through_35 rfl rfl ?_
    refine j_icmp_ne 48 dX12_through_36 rfl (by decide) (fun c1 => ?_) (fun c1 => ?_)
    · skip
      refine j_iconst (-1) dX12_through_48 rfl (by decide) ?_
      exact j_iret dX12_through_49 rfl (k0 c0 c1)
    · skip
      refine j_aload_n dX12_through_39 rfl rfl ?_
      refine j_getR (ci := 12) (N := 80) (f := 25) (T := TX12) 124 dX12_through_40 rfl (hG 112 (17, 80) rfl) rfl (by decide) fl_X12_52 rfl (hP 112 25 124 rfl) ?_
      refine j_iload_n dX12_through_43 rfl rfl ?_
      refine j_iald' (j := (Int32.toNatClampNeg ((12 * (μ.1 112 18)) + x1))) dX12_through_44 rfl (hG 124 (0, 24) rfl) o0 rfl ?_
      refine j_goto 49 dX12_through_45 (by decide) ?_
      exact j_iret dX12_through_49 rfl (k1 c0 c1)
  · skip
    refine j_aload_n dX12_through_20 rfl rfl ?_
    refine j_getR (ci := 12) (N := 80) (f := 26) (T := TX12) 125 dX12_through_21 rfl (hG 112 (17, 80) rfl) rfl (by decide) fl_X12_55 rfl (hP 112 26 125 rfl) ?_
    refine j_iload_n dX12_through_24 rfl rfl ?_
    refine j_iald' (j := (Int32.toNatClampNeg ((12 * (μ.1 112 18)) + x1))) dX12_through_25 rfl (hG 125 (0, 24) rfl) o0 rfl ?_
    refine j_goto 49 dX12_through_26 (by decide) ?_
    exact j_iret dX12_through_49 rfl (k2 c0)
theorem b_X12_fillsLeft_0 {l : Launch} {G : jG} {μ : jM} {φ : jM → Prop} {x1 : Int32} (hG : gMM G) (hP : gNN μ) 
    (k0 : J l mX12_fillsLeft (jZ0 1 G (pV φ)) G 0 0 2 [.ref 112, .int x1, .int 0, .null, .null, .null, .null] [] μ) :
    J l mX12_fillsLeft (jZ0 1 G (pV φ)) G 0 0 0 [.ref 112, .int x1, .null, .null, .null, .null, .null] [] μ := by
  refine j_iconst 0 dX12_fillsLeft_0 rfl (by decide) ?_
  refine j_istore_n (ls' := [.ref 112, .int x1, .int 0, .null, .null, .null, .null]) dX12_fillsLeft_1 rfl rfl (Nat.le_of_ble_eq_true rfl) rfl ?_
  exact k0 
theorem b_X12_fillsLeft_2 {l : Launch} {G : jG} {μ : jM} {φ : jM → Prop} {x1 x2 : Int32} (hG : gMM G) (hP : gNN μ) 
    (k0 : (8 ≤ (x2 : Int32)) → J l mX12_fillsLeft (jZ0 1 G (pV φ)) G 0 0 32 [.ref 112, .null, .int 0, .null, .null, .null, .null] [] μ) 
    (o0 : (¬ (8 ≤ (x2 : Int32))) → (¬ x2 = (x1 : Int32)) → vp_in x2 8) 
    (k1 : (¬ (8 ≤ (x2 : Int32))) → (¬ x2 = (x1 : Int32)) → J l mX12_fillsLeft (jZ0 1 G (pV φ)) G 0 0 2 [.ref 112, .int x1, .int (x2 + 1), .null, .null, .null, .null] [] (wI μ 153 (Int32.toNatClampNeg x2) (-1))) 
    (o1 : (¬ (8 ≤ (x2 : Int32))) → (x2 = (x1 : Int32)) → vp_in x2 8) 
    (k2 : (¬ (8 ≤ (x2 : Int32))) → (x2 = (x1 : Int32)) → J l mX12_fillsLeft (jZ0 1 G (pV φ)) G 0 0 2 [.ref 112, .int x1, .int (x2 + 1), .null, .null, .null, .null] [] (wI μ 153 (Int32.toNatClampNeg x2) 0)) :
    J l mX12_fillsLeft (jZ0 1 G (pV φ)) G 0 0 2 [.ref 112, .int x1, .int x2, .null, .null, .null, .null] [] μ := by
  refine j_iload_n dX12_fillsLeft_2 rfl rfl ?_
  refine j_bipush 8 dX12_fillsLeft_3 rfl (by decide) ?_
  refine j_icmp_ge 30 dX12_fillsLeft_5 rfl (by decide) (fun c0 => ?_) (fun c0 => ?_)
  · skip
    refine j_iconst 0 dX12_fillsLeft_30 rfl (by decide) ?_
    refine j_istore_n (ls' := [.ref 112, .int x1, .int 0, .null, .null, .null, .null]) dX12_fillsLeft_31 rfl rfl (Nat.le_of_ble_eq_true rfl) rfl ?_
    refine j_forget (ls' := [.ref 112, .null, .int 0, .null, .null, .null, .null]) ⟨Or.inr rfl, Or.inl rfl, Or.inr rfl, Or.inr rfl, Or.inr rfl, Or.inr rfl, Or.inr rfl, trivial⟩ ?_
    exact k0 c0
  · skip
    refine j_aload_n dX12_fillsLeft_8 rfl rfl ?_
    refine j_getR (ci := 12) (N := 80) (f := 61) (T := TX12) 153 dX12_fillsLeft_9 rfl (hG 112 (17, 80) rfl) rfl (by decide) fl_X12_140 rfl (hP 112 61 153 rfl) ?_
    refine j_iload_n dX12_fillsLeft_12 rfl rfl ?_
    refine j_iload_n dX12_fillsLeft_13 rfl rfl ?_
    refine j_iload_n dX12_fillsLeft_14 rfl rfl ?_
    refine j_icmp_ne 22 dX12_fillsLeft_15 rfl (by decide) (fun c1 => ?_) (fun c1 => ?_)
    · skip
      refine j_iconst (-1) dX12_fillsLeft_22 rfl (by decide) ?_
      refine j_iast' (j := (Int32.toNatClampNeg x2)) dX12_fillsLeft_23 rfl (hG 153 (0, 8) rfl) (o0 c0 c1) rfl ?_
      refine j_iinc (x2 + 1) (ls' := [.ref 112, .int x1, .int (x2 + 1), .null, .null, .null, .null]) dX12_fillsLeft_24 rfl rfl rfl (Nat.le_of_ble_eq_true rfl) rfl ?_
      refine j_goto 2 dX12_fillsLeft_27 (by decide) ?_
      exact k1 c0 c1
    · skip
      refine j_iconst 0 dX12_fillsLeft_18 rfl (by decide) ?_
      refine j_goto 23 dX12_fillsLeft_19 (by decide) ?_
      refine j_iast' (j := (Int32.toNatClampNeg x2)) dX12_fillsLeft_23 rfl (hG 153 (0, 8) rfl) (o1 c0 c1) rfl ?_
      refine j_iinc (x2 + 1) (ls' := [.ref 112, .int x1, .int (x2 + 1), .null, .null, .null, .null]) dX12_fillsLeft_24 rfl rfl rfl (Nat.le_of_ble_eq_true rfl) rfl ?_
      refine j_goto 2 dX12_fillsLeft_27 (by decide) ?_
      exact k2 c0 c1
theorem b_X12_fillsLeft_32 {l : Launch} {G : jG} {μ : jM} {φ : jM → Prop} {x2 : Int32} (hG : gMM G) (hP : gNN μ) 
    (k0 : (8 ≤ (x2 : Int32)) → φ μ) 
    (k1 : (¬ (8 ≤ (x2 : Int32))) → J l mX12_fillsLeft (jZ0 1 G (pV φ)) G 0 0 40 [.ref 112, .null, .int x2, .int 0, .null, .null, .null] [] μ) :
    J l mX12_fillsLeft (jZ0 1 G (pV φ)) G 0 0 32 [.ref 112, .null, .int x2, .null, .null, .null, .null] [] μ := by
  refine j_iload_n dX12_fillsLeft_32 rfl rfl ?_
  refine j_bipush 8 dX12_fillsLeft_33 rfl (by decide) ?_
  refine j_icmp_ge 170 dX12_fillsLeft_35 rfl (by decide) (fun c0 => ?_) (fun c0 => ?_)
  · skip
    exact j_vret dX12_fillsLeft_170 rfl (k0 c0)
  · skip
    refine j_iconst 0 dX12_fillsLeft_38 rfl (by decide) ?_
    refine j_istore_n (ls' := [.ref 112, .null, .int x2, .int 0, .null, .null, .null]) dX12_fillsLeft_39 rfl rfl (Nat.le_of_ble_eq_true rfl) rfl ?_
    exact k1 c0
theorem b_X12_fillsLeft_40 {l : Launch} {G : jG} {μ : jM} {φ : jM → Prop} {x2 x3 : Int32} (hG : gMM G) (hP : gNN μ) 
    (o0 : vp_in (μ.1 112 18) 2) 
    (k0 : ((μ.1 122 (Int32.toNatClampNeg (μ.1 112 18))) ≤ (x3 : Int32)) → J l mX12_fillsLeft (jZ0 1 G (pV φ)) G 0 0 32 [.ref 112, .null, .int (x2 + 1), .null, .null, .null, .null] [] μ) 
    (k1 : (¬ ((μ.1 122 (Int32.toNatClampNeg (μ.1 112 18))) ≤ (x3 : Int32))) → J l mX12_fillsLeft (jZ0 1 G (pV φ)) G 0 0 56 [.ref 112, .null, .int x2, .int x3, .int 0, .null, .null] [] μ) :
    J l mX12_fillsLeft (jZ0 1 G (pV φ)) G 0 0 40 [.ref 112, .null, .int x2, .int x3, .null, .null, .null] [] μ := by
  refine j_iload_n dX12_fillsLeft_40 rfl rfl ?_
  refine j_aload_n dX12_fillsLeft_41 rfl rfl ?_
  refine j_getR (ci := 12) (N := 80) (f := 23) (T := TX12) 122 dX12_fillsLeft_42 rfl (hG 112 (17, 80) rfl) rfl (by decide) fl_X12_46 rfl (hP 112 23 122 rfl) ?_
  refine j_aload_n dX12_fillsLeft_45 rfl rfl ?_
  refine j_getI (ci := 12) (N := 80) (f := 18) (T := TX12) dX12_fillsLeft_46 rfl (hG 112 (17, 80) rfl) rfl (by decide) fl_X12_263 rfl ?_
  refine j_iald' (j := (Int32.toNatClampNeg (μ.1 112 18))) dX12_fillsLeft_49 rfl (hG 122 (0, 2) rfl) o0 rfl ?_
  refine j_icmp_ge 164 dX12_fillsLeft_50 rfl (by decide) (fun c0 => ?_) (fun c0 => ?_)
  · skip
    refine j_iinc (x2 + 1) (ls' := [.ref 112, .null, .int (x2 + 1), .int x3, .null, .null, .null]) dX12_fillsLeft_164 rfl rfl rfl (Nat.le_of_ble_eq_true rfl) rfl ?_
    refine j_goto 32 dX12_fillsLeft_167 (by decide) ?_
    refine j_forget (ls' := [.ref 112, .null, .int (x2 + 1), .null, .null, .null, .null]) ⟨Or.inr rfl, Or.inr rfl, Or.inr rfl, Or.inl rfl, Or.inr rfl, Or.inr rfl, Or.inr rfl, trivial⟩ ?_
    exact k0 c0
  · skip
    refine j_iconst 0 dX12_fillsLeft_53 rfl (by decide) ?_
    refine j_istore (ls' := [.ref 112, .null, .int x2, .int x3, .int 0, .null, .null]) dX12_fillsLeft_54 rfl (Nat.le_of_ble_eq_true rfl) rfl ?_
    exact k1 c0
theorem b_X12_fillsLeft_56 {l : Launch} {G : jG} {μ : jM} {φ : jM → Prop} {x2 x3 x4 : Int32} {ψ1 : Int32 → jM → Prop} (hG : gMM G) (hP : gNN μ) 
    (o0 : vp_in (μ.1 112 18) 2) 
    (k0 : ((μ.1 123 (Int32.toNatClampNeg (μ.1 112 18))) ≤ (x4 : Int32)) → J l mX12_fillsLeft (jZ0 1 G (pV φ)) G 0 0 40 [.ref 112, .null, .int x2, .int (x3 + 1), .null, .null, .null] [] μ) 
    (e1 : (¬ ((μ.1 123 (Int32.toNatClampNeg (μ.1 112 18))) ≤ (x4 : Int32))) → jC0 l mX12_through 0 G [.ref 112, .int x4, .int x3] μ (pI ψ1)) 
    (k1 : (¬ ((μ.1 123 (Int32.toNatClampNeg (μ.1 112 18))) ≤ (x4 : Int32))) → ∀ v μ', ψ1 v μ' → J l mX12_fillsLeft (jZ0 1 G (pV φ)) G 0 0 77 [.ref 112, .null, .int x2, .int x3, .int x4, .null, .null] [.int v] μ') :
    J l mX12_fillsLeft (jZ0 1 G (pV φ)) G 0 0 56 [.ref 112, .null, .int x2, .int x3, .int x4, .null, .null] [] μ := by
  refine j_iload dX12_fillsLeft_56 rfl rfl ?_
  refine j_aload_n dX12_fillsLeft_58 rfl rfl ?_
  refine j_getR (ci := 12) (N := 80) (f := 24) (T := TX12) 123 dX12_fillsLeft_59 rfl (hG 112 (17, 80) rfl) rfl (by decide) fl_X12_49 rfl (hP 112 24 123 rfl) ?_
  refine j_aload_n dX12_fillsLeft_62 rfl rfl ?_
  refine j_getI (ci := 12) (N := 80) (f := 18) (T := TX12) dX12_fillsLeft_63 rfl (hG 112 (17, 80) rfl) rfl (by decide) fl_X12_263 rfl ?_
  refine j_iald' (j := (Int32.toNatClampNeg (μ.1 112 18))) dX12_fillsLeft_66 rfl (hG 123 (0, 2) rfl) o0 rfl ?_
  refine j_icmp_ge 158 dX12_fillsLeft_67 rfl (by decide) (fun c0 => ?_) (fun c0 => ?_)
  · skip
    refine j_iinc (x3 + 1) (ls' := [.ref 112, .null, .int x2, .int (x3 + 1), .int x4, .null, .null]) dX12_fillsLeft_158 rfl rfl rfl (Nat.le_of_ble_eq_true rfl) rfl ?_
    refine j_goto 40 dX12_fillsLeft_161 (by decide) ?_
    refine j_forget (ls' := [.ref 112, .null, .int x2, .int (x3 + 1), .null, .null, .null]) ⟨Or.inr rfl, Or.inr rfl, Or.inr rfl, Or.inr rfl, Or.inl rfl, Or.inr rfl, Or.inr rfl, trivial⟩ ?_
    exact k0 c0
  · skip
    refine j_aload_n dX12_fillsLeft_70 rfl rfl ?_
    refine j_iload dX12_fillsLeft_71 rfl rfl ?_
    refine j_iload_n dX12_fillsLeft_73 rfl rfl ?_
    refine j_cV (as := [.int x4, .int x3]) (rest := []) dX12_fillsLeft_74 rfl vw_X12_400 (hG 112 (17, 80) rfl) rfl ⟨Nat.le_of_ble_eq_true rfl, Nat.le_of_ble_eq_true rfl⟩ rfl rfl (fun _ _ => Nat.le_of_ble_eq_true rfl) (e1 c0) (fun r μ' hr => ?_)
    obtain ⟨v, rfl, hr⟩ := hr
    exact k1 c0 v μ' hr
theorem b_X12_fillsLeft_77 {l : Launch} {G : jG} {μ : jM} {φ : jM → Prop} {x2 x3 x4 z0 : Int32} (hG : gMM G) (hP : gNN μ) 
    (k0 : (z0 < (0 : Int32)) → J l mX12_fillsLeft (jZ0 1 G (pV φ)) G 0 0 56 [.ref 112, .null, .int x2, .int x3, .int (x4 + 1), .null, .null] [] μ) 
    (o0 : (¬ (z0 < (0 : Int32))) → vp_in x4 12) 
    (k1 : (¬ (z0 < (0 : Int32))) → ((μ.1 154 (Int32.toNatClampNeg x4)) < (0 : Int32)) → J l mX12_fillsLeft (jZ0 1 G (pV φ)) G 0 0 56 [.ref 112, .null, .int x2, .int x3, .int (x4 + 1), .null, .null] [] μ) 
    (o1 : (¬ (z0 < (0 : Int32))) → (¬ ((μ.1 154 (Int32.toNatClampNeg x4)) < (0 : Int32))) → vp_in z0 8) 
    (o2 : (¬ (z0 < (0 : Int32))) → (¬ ((μ.1 154 (Int32.toNatClampNeg x4)) < (0 : Int32))) → (0 ≤ ((μ.1 153 (Int32.toNatClampNeg z0)) : Int32)) → vp_in x3 8) 
    (k2 : (¬ (z0 < (0 : Int32))) → (¬ ((μ.1 154 (Int32.toNatClampNeg x4)) < (0 : Int32))) → (0 ≤ ((μ.1 153 (Int32.toNatClampNeg z0)) : Int32)) → ((μ.1 153 (Int32.toNatClampNeg x3)) < (0 : Int32)) → J l mX12_fillsLeft (jZ0 1 G (pV φ)) G 0 0 56 [.ref 112, .null, .int x2, .int x3, .int (x4 + 1), .null, .null] [] (wI μ 153 (Int32.toNatClampNeg x3) ((μ.1 154 (Int32.toNatClampNeg x4)) + (μ.1 153 (Int32.toNatClampNeg z0))))) 
    (k3 : (¬ (z0 < (0 : Int32))) → (¬ ((μ.1 154 (Int32.toNatClampNeg x4)) < (0 : Int32))) → (0 ≤ ((μ.1 153 (Int32.toNatClampNeg z0)) : Int32)) → (¬ ((μ.1 153 (Int32.toNatClampNeg x3)) < (0 : Int32))) → ((μ.1 153 (Int32.toNatClampNeg x3)) ≤ (((μ.1 154 (Int32.toNatClampNeg x4)) + (μ.1 153 (Int32.toNatClampNeg z0))) : Int32)) → J l mX12_fillsLeft (jZ0 1 G (pV φ)) G 0 0 56 [.ref 112, .null, .int x2, .int x3, .int (x4 + 1), .null, .null] [] μ) 
    (k4 : (¬ (z0 < (0 : Int32))) → (¬ ((μ.1 154 (Int32.toNatClampNeg x4)) < (0 : Int32))) → (0 ≤ ((μ.1 153 (Int32.toNatClampNeg z0)) : Int32)) → (¬ ((μ.1 153 (Int32.toNatClampNeg x3)) < (0 : Int32))) → (¬ ((μ.1 153 (Int32.toNatClampNeg x3)) ≤ (((μ.1 154 (Int32.toNatClampNeg x4)) + (μ.1 153 (Int32.toNatClampNeg z0))) : Int32))) → J l mX12_fillsLeft (jZ0 1 G (pV φ)) G 0 0 56 [.ref 112, .null, .int x2, .int x3, .int (x4 + 1), .null, .null] [] (wI μ 153 (Int32.toNatClampNeg x3) ((μ.1 154 (Int32.toNatClampNeg x4)) + (μ.1 153 (Int32.toNatClampNeg z0))))) 
    (k5 : (¬ (z0 < (0 : Int32))) → (¬ ((μ.1 154 (Int32.toNatClampNeg x4)) < (0 : Int32))) → (¬ (0 ≤ ((μ.1 153 (Int32.toNatClampNeg z0)) : Int32))) → J l mX12_fillsLeft (jZ0 1 G (pV φ)) G 0 0 56 [.ref 112, .null, .int x2, .int x3, .int (x4 + 1), .null, .null] [] μ) :
    J l mX12_fillsLeft (jZ0 1 G (pV φ)) G 0 0 77 [.ref 112, .null, .int x2, .int x3, .int x4, .null, .null] [.int z0] μ := by
  refine j_istore (ls' := [.ref 112, .null, .int x2, .int x3, .int x4, .int z0, .null]) dX12_fillsLeft_77 rfl (Nat.le_of_ble_eq_true rfl) rfl ?_
  refine j_iload dX12_fillsLeft_79 rfl rfl ?_
  refine j_if_lt 152 dX12_fillsLeft_81 rfl (by decide) (fun c0 => ?_) (fun c0 => ?_)
  · skip
    refine j_iinc (x4 + 1) (ls' := [.ref 112, .null, .int x2, .int x3, .int (x4 + 1), .int z0, .null]) dX12_fillsLeft_152 rfl rfl rfl (Nat.le_of_ble_eq_true rfl) rfl ?_
    refine j_goto 56 dX12_fillsLeft_155 (by decide) ?_
    refine j_forget (ls' := [.ref 112, .null, .int x2, .int x3, .int (x4 + 1), .null, .null]) ⟨Or.inr rfl, Or.inr rfl, Or.inr rfl, Or.inr rfl, Or.inr rfl, Or.inl rfl, Or.inr rfl, trivial⟩ ?_
    exact k0 c0
  · skip
    refine j_aload_n dX12_fillsLeft_84 rfl rfl ?_
    refine j_getR (ci := 12) (N := 80) (f := 62) (T := TX12) 154 dX12_fillsLeft_85 rfl (hG 112 (17, 80) rfl) rfl (by decide) fl_X12_143 rfl (hP 112 62 154 rfl) ?_
    refine j_iload dX12_fillsLeft_88 rfl rfl ?_
    refine j_iald' (j := (Int32.toNatClampNeg x4)) dX12_fillsLeft_90 rfl (hG 154 (0, 12) rfl) (o0 c0) rfl ?_
    refine j_if_lt 152 dX12_fillsLeft_91 rfl (by decide) (fun c1 => ?_) (fun c1 => ?_)
    · skip
      refine j_iinc (x4 + 1) (ls' := [.ref 112, .null, .int x2, .int x3, .int (x4 + 1), .int z0, .null]) dX12_fillsLeft_152 rfl rfl rfl (Nat.le_of_ble_eq_true rfl) rfl ?_
      refine j_goto 56 dX12_fillsLeft_155 (by decide) ?_
      refine j_forget (ls' := [.ref 112, .null, .int x2, .int x3, .int (x4 + 1), .null, .null]) ⟨Or.inr rfl, Or.inr rfl, Or.inr rfl, Or.inr rfl, Or.inr rfl, Or.inl rfl, Or.inr rfl, trivial⟩ ?_
      exact k1 c0 c1
    · skip
      refine j_aload_n dX12_fillsLeft_94 rfl rfl ?_
      refine j_getR (ci := 12) (N := 80) (f := 61) (T := TX12) 153 dX12_fillsLeft_95 rfl (hG 112 (17, 80) rfl) rfl (by decide) fl_X12_140 rfl (hP 112 61 153 rfl) ?_
      refine j_iload dX12_fillsLeft_98 rfl rfl ?_
      refine j_iald' (j := (Int32.toNatClampNeg z0)) dX12_fillsLeft_100 rfl (hG 153 (0, 8) rfl) (o1 c0 c1) rfl ?_
      refine j_if_ge 107 dX12_fillsLeft_101 rfl (by decide) (fun c2 => ?_) (fun c2 => ?_)
      · skip
        refine j_aload_n dX12_fillsLeft_107 rfl rfl ?_
        refine j_getR (ci := 12) (N := 80) (f := 62) (T := TX12) 154 dX12_fillsLeft_108 rfl (hG 112 (17, 80) rfl) rfl (by decide) fl_X12_143 rfl (hP 112 62 154 rfl) ?_
        refine j_iload dX12_fillsLeft_111 rfl rfl ?_
        refine j_iald' (j := (Int32.toNatClampNeg x4)) dX12_fillsLeft_113 rfl (hG 154 (0, 12) rfl) (o0 c0) rfl ?_
        refine j_aload_n dX12_fillsLeft_114 rfl rfl ?_
        refine j_getR (ci := 12) (N := 80) (f := 61) (T := TX12) 153 dX12_fillsLeft_115 rfl (hG 112 (17, 80) rfl) rfl (by decide) fl_X12_140 rfl (hP 112 61 153 rfl) ?_
        refine j_iload dX12_fillsLeft_118 rfl rfl ?_
        refine j_iald' (j := (Int32.toNatClampNeg z0)) dX12_fillsLeft_120 rfl (hG 153 (0, 8) rfl) (o1 c0 c1) rfl ?_
        refine j_iadd dX12_fillsLeft_121 rfl ?_
        refine j_istore (ls' := [.ref 112, .null, .int x2, .int x3, .int x4, .int z0, .int ((μ.1 154 (Int32.toNatClampNeg x4)) + (μ.1 153 (Int32.toNatClampNeg z0)))]) dX12_fillsLeft_122 rfl (Nat.le_of_ble_eq_true rfl) rfl ?_
        refine j_aload_n dX12_fillsLeft_124 rfl rfl ?_
        refine j_getR (ci := 12) (N := 80) (f := 61) (T := TX12) 153 dX12_fillsLeft_125 rfl (hG 112 (17, 80) rfl) rfl (by decide) fl_X12_140 rfl (hP 112 61 153 rfl) ?_
        refine j_iload_n dX12_fillsLeft_128 rfl rfl ?_
        refine j_iald' (j := (Int32.toNatClampNeg x3)) dX12_fillsLeft_129 rfl (hG 153 (0, 8) rfl) (o2 c0 c1 c2) rfl ?_
        refine j_if_lt 144 dX12_fillsLeft_130 rfl (by decide) (fun c3 => ?_) (fun c3 => ?_)
        · skip
          refine j_aload_n dX12_fillsLeft_144 rfl rfl ?_
          refine j_getR (ci := 12) (N := 80) (f := 61) (T := TX12) 153 dX12_fillsLeft_145 rfl (hG 112 (17, 80) rfl) rfl (by decide) fl_X12_140 rfl (hP 112 61 153 rfl) ?_
          refine j_iload_n dX12_fillsLeft_148 rfl rfl ?_
          refine j_iload dX12_fillsLeft_149 rfl rfl ?_
          refine j_iast' (j := (Int32.toNatClampNeg x3)) dX12_fillsLeft_151 rfl (hG 153 (0, 8) rfl) (o2 c0 c1 c2) rfl ?_
          refine j_iinc (x4 + 1) (ls' := [.ref 112, .null, .int x2, .int x3, .int (x4 + 1), .int z0, .int ((μ.1 154 (Int32.toNatClampNeg x4)) + (μ.1 153 (Int32.toNatClampNeg z0)))]) dX12_fillsLeft_152 rfl rfl rfl (Nat.le_of_ble_eq_true rfl) rfl ?_
          refine j_goto 56 dX12_fillsLeft_155 (by decide) ?_
          refine j_forget (ls' := [.ref 112, .null, .int x2, .int x3, .int (x4 + 1), .null, .null]) ⟨Or.inr rfl, Or.inr rfl, Or.inr rfl, Or.inr rfl, Or.inr rfl, Or.inl rfl, Or.inl rfl, trivial⟩ ?_
          exact k2 c0 c1 c2 c3
        · skip
          refine j_iload dX12_fillsLeft_133 rfl rfl ?_
          refine j_aload_n dX12_fillsLeft_135 rfl rfl ?_
          refine j_getR (ci := 12) (N := 80) (f := 61) (T := TX12) 153 dX12_fillsLeft_136 rfl (hG 112 (17, 80) rfl) rfl (by decide) fl_X12_140 rfl (hP 112 61 153 rfl) ?_
          refine j_iload_n dX12_fillsLeft_139 rfl rfl ?_
          refine j_iald' (j := (Int32.toNatClampNeg x3)) dX12_fillsLeft_140 rfl (hG 153 (0, 8) rfl) (o2 c0 c1 c2) rfl ?_
          refine j_icmp_ge 152 dX12_fillsLeft_141 rfl (by decide) (fun c4 => ?_) (fun c4 => ?_)
          · skip
            refine j_iinc (x4 + 1) (ls' := [.ref 112, .null, .int x2, .int x3, .int (x4 + 1), .int z0, .int ((μ.1 154 (Int32.toNatClampNeg x4)) + (μ.1 153 (Int32.toNatClampNeg z0)))]) dX12_fillsLeft_152 rfl rfl rfl (Nat.le_of_ble_eq_true rfl) rfl ?_
            refine j_goto 56 dX12_fillsLeft_155 (by decide) ?_
            refine j_forget (ls' := [.ref 112, .null, .int x2, .int x3, .int (x4 + 1), .null, .null]) ⟨Or.inr rfl, Or.inr rfl, Or.inr rfl, Or.inr rfl, Or.inr rfl, Or.inl rfl, Or.inl rfl, trivial⟩ ?_
            exact k3 c0 c1 c2 c3 c4
          · skip
            refine j_aload_n dX12_fillsLeft_144 rfl rfl ?_
            refine j_getR (ci := 12) (N := 80) (f := 61) (T := TX12) 153 dX12_fillsLeft_145 rfl (hG 112 (17, 80) rfl) rfl (by decide) fl_X12_140 rfl (hP 112 61 153 rfl) ?_
            refine j_iload_n dX12_fillsLeft_148 rfl rfl ?_
            refine j_iload dX12_fillsLeft_149 rfl rfl ?_
            refine j_iast' (j := (Int32.toNatClampNeg x3)) dX12_fillsLeft_151 rfl (hG 153 (0, 8) rfl) (o2 c0 c1 c2) rfl ?_
            refine j_iinc (x4 + 1) (ls' := [.ref 112, .null, .int x2, .int x3, .int (x4 + 1), .int z0, .int ((μ.1 154 (Int32.toNatClampNeg x4)) + (μ.1 153 (Int32.toNatClampNeg z0)))]) dX12_fillsLeft_152 rfl rfl rfl (Nat.le_of_ble_eq_true rfl) rfl ?_
            refine j_goto 56 dX12_fillsLeft_155 (by decide) ?_
            refine j_forget (ls' := [.ref 112, .null, .int x2, .int x3, .int (x4 + 1), .null, .null]) ⟨Or.inr rfl, Or.inr rfl, Or.inr rfl, Or.inr rfl, Or.inr rfl, Or.inl rfl, Or.inl rfl, trivial⟩ ?_
            exact k4 c0 c1 c2 c3 c4
      · skip
        refine j_goto 152 dX12_fillsLeft_104 (by decide) ?_
        refine j_iinc (x4 + 1) (ls' := [.ref 112, .null, .int x2, .int x3, .int (x4 + 1), .int z0, .null]) dX12_fillsLeft_152 rfl rfl rfl (Nat.le_of_ble_eq_true rfl) rfl ?_
        refine j_goto 56 dX12_fillsLeft_155 (by decide) ?_
        refine j_forget (ls' := [.ref 112, .null, .int x2, .int x3, .int (x4 + 1), .null, .null]) ⟨Or.inr rfl, Or.inr rfl, Or.inr rfl, Or.inr rfl, Or.inr rfl, Or.inl rfl, Or.inr rfl, trivial⟩ ?_
        exact k5 c0 c1 c2
theorem b_X12_firstRoad_0 {l : Launch} {G : jG} {μ : jM} {φ : Int32 → jM → Prop} {x1 : Int32} (hG : gMM G) (hP : gNN μ) 
    (k0 : J l mX12_firstRoad (jZ0 1 G (pI φ)) G 0 0 2 [.ref 112, .int x1, .int 0, .null] [] μ) :
    J l mX12_firstRoad (jZ0 1 G (pI φ)) G 0 0 0 [.ref 112, .int x1, .null, .null] [] μ := by
  refine j_iconst 0 dX12_firstRoad_0 rfl (by decide) ?_
  refine j_istore_n (ls' := [.ref 112, .int x1, .int 0, .null]) dX12_firstRoad_1 rfl rfl (Nat.le_of_ble_eq_true rfl) rfl ?_
  exact k0 
theorem b_X12_firstRoad_2 {l : Launch} {G : jG} {μ : jM} {φ : Int32 → jM → Prop} {x1 x2 : Int32} {ψ1 : Int32 → jM → Prop} (hG : gMM G) (hP : gNN μ) 
    (o0 : vp_in (μ.1 112 18) 2) 
    (k0 : ((μ.1 123 (Int32.toNatClampNeg (μ.1 112 18))) ≤ (x2 : Int32)) → φ (-1) μ) 
    (e1 : (¬ ((μ.1 123 (Int32.toNatClampNeg (μ.1 112 18))) ≤ (x2 : Int32))) → jC0 l mX12_through 0 G [.ref 112, .int x2, .int x1] μ (pI ψ1)) 
    (k1 : (¬ ((μ.1 123 (Int32.toNatClampNeg (μ.1 112 18))) ≤ (x2 : Int32))) → ∀ v μ', ψ1 v μ' → J l mX12_firstRoad (jZ0 1 G (pI φ)) G 0 0 21 [.ref 112, .int x1, .int x2, .null] [.int v] μ') :
    J l mX12_firstRoad (jZ0 1 G (pI φ)) G 0 0 2 [.ref 112, .int x1, .int x2, .null] [] μ := by
  refine j_iload_n dX12_firstRoad_2 rfl rfl ?_
  refine j_aload_n dX12_firstRoad_3 rfl rfl ?_
  refine j_getR (ci := 12) (N := 80) (f := 24) (T := TX12) 123 dX12_firstRoad_4 rfl (hG 112 (17, 80) rfl) rfl (by decide) fl_X12_49 rfl (hP 112 24 123 rfl) ?_
  refine j_aload_n dX12_firstRoad_7 rfl rfl ?_
  refine j_getI (ci := 12) (N := 80) (f := 18) (T := TX12) dX12_firstRoad_8 rfl (hG 112 (17, 80) rfl) rfl (by decide) fl_X12_263 rfl ?_
  refine j_iald' (j := (Int32.toNatClampNeg (μ.1 112 18))) dX12_firstRoad_11 rfl (hG 123 (0, 2) rfl) o0 rfl ?_
  refine j_icmp_ge 74 dX12_firstRoad_12 rfl (by decide) (fun c0 => ?_) (fun c0 => ?_)
  · skip
    refine j_iconst (-1) dX12_firstRoad_74 rfl (by decide) ?_
    exact j_iret dX12_firstRoad_75 rfl (k0 c0)
  · skip
    refine j_aload_n dX12_firstRoad_15 rfl rfl ?_
    refine j_iload_n dX12_firstRoad_16 rfl rfl ?_
    refine j_iload_n dX12_firstRoad_17 rfl rfl ?_
    refine j_cV (as := [.int x2, .int x1]) (rest := []) dX12_firstRoad_18 rfl vw_X12_400 (hG 112 (17, 80) rfl) rfl ⟨Nat.le_of_ble_eq_true rfl, Nat.le_of_ble_eq_true rfl⟩ rfl rfl (fun _ _ => Nat.le_of_ble_eq_true rfl) (e1 c0) (fun r μ' hr => ?_)
    obtain ⟨v, rfl, hr⟩ := hr
    exact k1 c0 v μ' hr
theorem b_X12_firstRoad_21 {l : Launch} {G : jG} {μ : jM} {φ : Int32 → jM → Prop} {x1 x2 z0 : Int32} (hG : gMM G) (hP : gNN μ) 
    (k0 : (z0 < (0 : Int32)) → J l mX12_firstRoad (jZ0 1 G (pI φ)) G 0 0 2 [.ref 112, .int x1, .int (x2 + 1), .null] [] μ) 
    (o0 : (¬ (z0 < (0 : Int32))) → vp_in x2 12) 
    (k1 : (¬ (z0 < (0 : Int32))) → ((μ.1 154 (Int32.toNatClampNeg x2)) < (0 : Int32)) → J l mX12_firstRoad (jZ0 1 G (pI φ)) G 0 0 2 [.ref 112, .int x1, .int (x2 + 1), .null] [] μ) 
    (o1 : (¬ (z0 < (0 : Int32))) → (¬ ((μ.1 154 (Int32.toNatClampNeg x2)) < (0 : Int32))) → vp_in z0 8) 
    (k2 : (¬ (z0 < (0 : Int32))) → (¬ ((μ.1 154 (Int32.toNatClampNeg x2)) < (0 : Int32))) → ((μ.1 153 (Int32.toNatClampNeg z0)) < (0 : Int32)) → J l mX12_firstRoad (jZ0 1 G (pI φ)) G 0 0 2 [.ref 112, .int x1, .int (x2 + 1), .null] [] μ) 
    (o2 : (¬ (z0 < (0 : Int32))) → (¬ ((μ.1 154 (Int32.toNatClampNeg x2)) < (0 : Int32))) → (¬ ((μ.1 153 (Int32.toNatClampNeg z0)) < (0 : Int32))) → vp_in x1 8) 
    (k3 : (¬ (z0 < (0 : Int32))) → (¬ ((μ.1 154 (Int32.toNatClampNeg x2)) < (0 : Int32))) → (¬ ((μ.1 153 (Int32.toNatClampNeg z0)) < (0 : Int32))) → (¬ ((μ.1 154 (Int32.toNatClampNeg x2)) + (μ.1 153 (Int32.toNatClampNeg z0))) = ((μ.1 153 (Int32.toNatClampNeg x1)) : Int32)) → J l mX12_firstRoad (jZ0 1 G (pI φ)) G 0 0 2 [.ref 112, .int x1, .int (x2 + 1), .null] [] μ) 
    (k4 : (¬ (z0 < (0 : Int32))) → (¬ ((μ.1 154 (Int32.toNatClampNeg x2)) < (0 : Int32))) → (¬ ((μ.1 153 (Int32.toNatClampNeg z0)) < (0 : Int32))) → (((μ.1 154 (Int32.toNatClampNeg x2)) + (μ.1 153 (Int32.toNatClampNeg z0))) = ((μ.1 153 (Int32.toNatClampNeg x1)) : Int32)) → φ x2 μ) :
    J l mX12_firstRoad (jZ0 1 G (pI φ)) G 0 0 21 [.ref 112, .int x1, .int x2, .null] [.int z0] μ := by
  refine j_istore_n (ls' := [.ref 112, .int x1, .int x2, .int z0]) dX12_firstRoad_21 rfl rfl (Nat.le_of_ble_eq_true rfl) rfl ?_
  refine j_iload_n dX12_firstRoad_22 rfl rfl ?_
  refine j_if_lt 68 dX12_firstRoad_23 rfl (by decide) (fun c0 => ?_) (fun c0 => ?_)
  · skip
    refine j_iinc (x2 + 1) (ls' := [.ref 112, .int x1, .int (x2 + 1), .int z0]) dX12_firstRoad_68 rfl rfl rfl (Nat.le_of_ble_eq_true rfl) rfl ?_
    refine j_goto 2 dX12_firstRoad_71 (by decide) ?_
    refine j_forget (ls' := [.ref 112, .int x1, .int (x2 + 1), .null]) ⟨Or.inr rfl, Or.inr rfl, Or.inr rfl, Or.inl rfl, trivial⟩ ?_
    exact k0 c0
  · skip
    refine j_aload_n dX12_firstRoad_26 rfl rfl ?_
    refine j_getR (ci := 12) (N := 80) (f := 62) (T := TX12) 154 dX12_firstRoad_27 rfl (hG 112 (17, 80) rfl) rfl (by decide) fl_X12_143 rfl (hP 112 62 154 rfl) ?_
    refine j_iload_n dX12_firstRoad_30 rfl rfl ?_
    refine j_iald' (j := (Int32.toNatClampNeg x2)) dX12_firstRoad_31 rfl (hG 154 (0, 12) rfl) (o0 c0) rfl ?_
    refine j_if_lt 68 dX12_firstRoad_32 rfl (by decide) (fun c1 => ?_) (fun c1 => ?_)
    · skip
      refine j_iinc (x2 + 1) (ls' := [.ref 112, .int x1, .int (x2 + 1), .int z0]) dX12_firstRoad_68 rfl rfl rfl (Nat.le_of_ble_eq_true rfl) rfl ?_
      refine j_goto 2 dX12_firstRoad_71 (by decide) ?_
      refine j_forget (ls' := [.ref 112, .int x1, .int (x2 + 1), .null]) ⟨Or.inr rfl, Or.inr rfl, Or.inr rfl, Or.inl rfl, trivial⟩ ?_
      exact k1 c0 c1
    · skip
      refine j_aload_n dX12_firstRoad_35 rfl rfl ?_
      refine j_getR (ci := 12) (N := 80) (f := 61) (T := TX12) 153 dX12_firstRoad_36 rfl (hG 112 (17, 80) rfl) rfl (by decide) fl_X12_140 rfl (hP 112 61 153 rfl) ?_
      refine j_iload_n dX12_firstRoad_39 rfl rfl ?_
      refine j_iald' (j := (Int32.toNatClampNeg z0)) dX12_firstRoad_40 rfl (hG 153 (0, 8) rfl) (o1 c0 c1) rfl ?_
      refine j_if_lt 68 dX12_firstRoad_41 rfl (by decide) (fun c2 => ?_) (fun c2 => ?_)
      · skip
        refine j_iinc (x2 + 1) (ls' := [.ref 112, .int x1, .int (x2 + 1), .int z0]) dX12_firstRoad_68 rfl rfl rfl (Nat.le_of_ble_eq_true rfl) rfl ?_
        refine j_goto 2 dX12_firstRoad_71 (by decide) ?_
        refine j_forget (ls' := [.ref 112, .int x1, .int (x2 + 1), .null]) ⟨Or.inr rfl, Or.inr rfl, Or.inr rfl, Or.inl rfl, trivial⟩ ?_
        exact k2 c0 c1 c2
      · skip
        refine j_aload_n dX12_firstRoad_44 rfl rfl ?_
        refine j_getR (ci := 12) (N := 80) (f := 62) (T := TX12) 154 dX12_firstRoad_45 rfl (hG 112 (17, 80) rfl) rfl (by decide) fl_X12_143 rfl (hP 112 62 154 rfl) ?_
        refine j_iload_n dX12_firstRoad_48 rfl rfl ?_
        refine j_iald' (j := (Int32.toNatClampNeg x2)) dX12_firstRoad_49 rfl (hG 154 (0, 12) rfl) (o0 c0) rfl ?_
        refine j_aload_n dX12_firstRoad_50 rfl rfl ?_
        refine j_getR (ci := 12) (N := 80) (f := 61) (T := TX12) 153 dX12_firstRoad_51 rfl (hG 112 (17, 80) rfl) rfl (by decide) fl_X12_140 rfl (hP 112 61 153 rfl) ?_
        refine j_iload_n dX12_firstRoad_54 rfl rfl ?_
        refine j_iald' (j := (Int32.toNatClampNeg z0)) dX12_firstRoad_55 rfl (hG 153 (0, 8) rfl) (o1 c0 c1) rfl ?_
        refine j_iadd dX12_firstRoad_56 rfl ?_
        refine j_aload_n dX12_firstRoad_57 rfl rfl ?_
        refine j_getR (ci := 12) (N := 80) (f := 61) (T := TX12) 153 dX12_firstRoad_58 rfl (hG 112 (17, 80) rfl) rfl (by decide) fl_X12_140 rfl (hP 112 61 153 rfl) ?_
        refine j_iload_n dX12_firstRoad_61 rfl rfl ?_
        refine j_iald' (j := (Int32.toNatClampNeg x1)) dX12_firstRoad_62 rfl (hG 153 (0, 8) rfl) (o2 c0 c1 c2) rfl ?_
        refine j_icmp_ne 68 dX12_firstRoad_63 rfl (by decide) (fun c3 => ?_) (fun c3 => ?_)
        · skip
          refine j_iinc (x2 + 1) (ls' := [.ref 112, .int x1, .int (x2 + 1), .int z0]) dX12_firstRoad_68 rfl rfl rfl (Nat.le_of_ble_eq_true rfl) rfl ?_
          refine j_goto 2 dX12_firstRoad_71 (by decide) ?_
          refine j_forget (ls' := [.ref 112, .int x1, .int (x2 + 1), .null]) ⟨Or.inr rfl, Or.inr rfl, Or.inr rfl, Or.inl rfl, trivial⟩ ?_
          exact k3 c0 c1 c2 c3
        · skip
          refine j_iload_n dX12_firstRoad_66 rfl rfl ?_
          exact j_iret dX12_firstRoad_67 rfl (k4 c0 c1 c2 c3)
theorem b_X12_findsWay_0 {l : Launch} {G : jG} {μ : jM} {φ : Int32 → jM → Prop} {x1 : Int32} {ψ0 : jM → Prop} (hG : gMM G) (hP : gNN μ) 
    (e0 : jC0 l mX12_fillsCosts 5 G [.ref 112, .int x1] μ (pV ψ0)) 
    (k0 : ∀ μ', ψ0 μ' → J l mX12_findsWay (jZ0 6 G (pI φ)) G 0 0 5 [.ref 112, .int x1, .null, .null, .null] [] μ') :
    J l mX12_findsWay (jZ0 6 G (pI φ)) G 0 0 0 [.ref 112, .int x1, .null, .null, .null] [] μ := by
  refine j_aload_n dX12_findsWay_0 rfl rfl ?_
  refine j_iload_n dX12_findsWay_1 rfl rfl ?_
  refine j_cV (as := [.int x1]) (rest := []) dX12_findsWay_2 rfl vw_X12_403 (hG 112 (17, 80) rfl) rfl ⟨Nat.le_of_ble_eq_true rfl, Nat.le_of_ble_eq_true rfl⟩ rfl rfl (fun _ _ => Nat.le_of_ble_eq_true rfl) (e0 ) (fun r μ' hr => ?_)
  obtain ⟨rfl, hr⟩ := hr
  exact k0  μ' hr
theorem b_X12_findsWay_5 {l : Launch} {G : jG} {μ : jM} {φ : Int32 → jM → Prop} {x1 : Int32} {ψ0 : jM → Prop} (hG : gMM G) (hP : gNN μ) 
    (o0 : vp_in ((7 * (μ.1 112 18)) + x1) 14) 
    (e0 : jC0 l mX12_fillsLeft 1 G [.ref 112, .int (μ.1 131 (Int32.toNatClampNeg ((7 * (μ.1 112 18)) + x1)))] μ (pV ψ0)) 
    (k0 : ∀ μ', ψ0 μ' → J l mX12_findsWay (jZ0 6 G (pI φ)) G 0 0 25 [.ref 112, .int x1, .int (μ.1 131 (Int32.toNatClampNeg ((7 * (μ.1 112 18)) + x1))), .null, .null] [] μ') :
    J l mX12_findsWay (jZ0 6 G (pI φ)) G 0 0 5 [.ref 112, .int x1, .null, .null, .null] [] μ := by
  refine j_aload_n dX12_findsWay_5 rfl rfl ?_
  refine j_getR (ci := 12) (N := 80) (f := 32) (T := TX12) 131 dX12_findsWay_6 rfl (hG 112 (17, 80) rfl) rfl (by decide) fl_X12_74 rfl (hP 112 32 131 rfl) ?_
  refine j_bipush 7 dX12_findsWay_9 rfl (by decide) ?_
  refine j_aload_n dX12_findsWay_11 rfl rfl ?_
  refine j_getI (ci := 12) (N := 80) (f := 18) (T := TX12) dX12_findsWay_12 rfl (hG 112 (17, 80) rfl) rfl (by decide) fl_X12_263 rfl ?_
  refine j_imul dX12_findsWay_15 rfl ?_
  refine j_iload_n dX12_findsWay_16 rfl rfl ?_
  refine j_iadd dX12_findsWay_17 rfl ?_
  refine j_iald' (j := (Int32.toNatClampNeg ((7 * (μ.1 112 18)) + x1))) dX12_findsWay_18 rfl (hG 131 (0, 14) rfl) o0 rfl ?_
  refine j_istore_n (ls' := [.ref 112, .int x1, .int (μ.1 131 (Int32.toNatClampNeg ((7 * (μ.1 112 18)) + x1))), .null, .null]) dX12_findsWay_19 rfl rfl (Nat.le_of_ble_eq_true rfl) rfl ?_
  refine j_aload_n dX12_findsWay_20 rfl rfl ?_
  refine j_iload_n dX12_findsWay_21 rfl rfl ?_
  refine j_cV (as := [.int (μ.1 131 (Int32.toNatClampNeg ((7 * (μ.1 112 18)) + x1)))]) (rest := []) dX12_findsWay_22 rfl vw_X12_406 (hG 112 (17, 80) rfl) rfl ⟨Nat.le_of_ble_eq_true rfl, Nat.le_of_ble_eq_true rfl⟩ rfl rfl (fun _ _ => Nat.le_of_ble_eq_true rfl) (e0 ) (fun r μ' hr => ?_)
  obtain ⟨rfl, hr⟩ := hr
  exact k0  μ' hr
theorem b_X12_findsWay_25 {l : Launch} {G : jG} {μ : jM} {φ : Int32 → jM → Prop} {x1 x2 : Int32} (hG : gMM G) (hP : gNN μ) 
    (o0 : vp_in ((7 * (μ.1 112 18)) + x1) 14) 
    (o1 : vp_in (μ.1 130 (Int32.toNatClampNeg ((7 * (μ.1 112 18)) + x1))) 8) 
    (k0 : (0 ≤ ((μ.1 153 (Int32.toNatClampNeg (μ.1 130 (Int32.toNatClampNeg ((7 * (μ.1 112 18)) + x1))))) : Int32)) → J l mX12_findsWay (jZ0 6 G (pI φ)) G 0 0 56 [.ref 112, .null, .int x2, .int (μ.1 130 (Int32.toNatClampNeg ((7 * (μ.1 112 18)) + x1))), .null] [] (wI μ 112 65 0)) 
    (k1 : (¬ (0 ≤ ((μ.1 153 (Int32.toNatClampNeg (μ.1 130 (Int32.toNatClampNeg ((7 * (μ.1 112 18)) + x1))))) : Int32))) → φ 0 (wI μ 112 65 0)) :
    J l mX12_findsWay (jZ0 6 G (pI φ)) G 0 0 25 [.ref 112, .int x1, .int x2, .null, .null] [] μ := by
  refine j_aload_n dX12_findsWay_25 rfl rfl ?_
  refine j_getR (ci := 12) (N := 80) (f := 31) (T := TX12) 130 dX12_findsWay_26 rfl (hG 112 (17, 80) rfl) rfl (by decide) fl_X12_71 rfl (hP 112 31 130 rfl) ?_
  refine j_bipush 7 dX12_findsWay_29 rfl (by decide) ?_
  refine j_aload_n dX12_findsWay_31 rfl rfl ?_
  refine j_getI (ci := 12) (N := 80) (f := 18) (T := TX12) dX12_findsWay_32 rfl (hG 112 (17, 80) rfl) rfl (by decide) fl_X12_263 rfl ?_
  refine j_imul dX12_findsWay_35 rfl ?_
  refine j_iload_n dX12_findsWay_36 rfl rfl ?_
  refine j_iadd dX12_findsWay_37 rfl ?_
  refine j_iald' (j := (Int32.toNatClampNeg ((7 * (μ.1 112 18)) + x1))) dX12_findsWay_38 rfl (hG 130 (0, 14) rfl) o0 rfl ?_
  refine j_istore_n (ls' := [.ref 112, .int x1, .int x2, .int (μ.1 130 (Int32.toNatClampNeg ((7 * (μ.1 112 18)) + x1))), .null]) dX12_findsWay_39 rfl rfl (Nat.le_of_ble_eq_true rfl) rfl ?_
  refine j_aload_n dX12_findsWay_40 rfl rfl ?_
  refine j_iconst 0 dX12_findsWay_41 rfl (by decide) ?_
  refine j_putI (ci := 12) (N := 80) (f := 65) (T := TX12) dX12_findsWay_42 rfl (hG 112 (17, 80) rfl) rfl (by decide) fl_X12_409 rfl rfl ?_
  refine j_aload_n dX12_findsWay_45 rfl rfl ?_
  refine j_getR (ci := 12) (N := 80) (f := 61) (T := TX12) 153 dX12_findsWay_46 rfl (hG 112 (17, 80) rfl) rfl (by decide) fl_X12_140 rfl (hP 112 61 153 rfl) ?_
  refine j_iload_n dX12_findsWay_49 rfl rfl ?_
  refine j_iald' (j := (Int32.toNatClampNeg (μ.1 130 (Int32.toNatClampNeg ((7 * (μ.1 112 18)) + x1))))) dX12_findsWay_50 rfl (hG 153 (0, 8) rfl) o1 rfl ?_
  refine j_if_ge 56 dX12_findsWay_51 rfl (by decide) (fun c0 => ?_) (fun c0 => ?_)
  · skip
    refine j_forget (ls' := [.ref 112, .null, .int x2, .int (μ.1 130 (Int32.toNatClampNeg ((7 * (μ.1 112 18)) + x1))), .null]) ⟨Or.inr rfl, Or.inl rfl, Or.inr rfl, Or.inr rfl, Or.inr rfl, trivial⟩ ?_
    exact k0 c0
  · skip
    refine j_iconst 0 dX12_findsWay_54 rfl (by decide) ?_
    exact j_zret dX12_findsWay_55 rfl (by decide) (k1 c0)
theorem b_X12_findsWay_56 {l : Launch} {G : jG} {μ : jM} {φ : Int32 → jM → Prop} {x2 x3 : Int32} {ψ1 : Int32 → jM → Prop} (hG : gMM G) (hP : gNN μ) 
    (k0 : (x3 = (x2 : Int32)) → φ 1 μ) 
    (e1 : (¬ (x3 = (x2 : Int32))) → jC0 l mX12_firstRoad 1 G [.ref 112, .int x3] μ (pI ψ1)) 
    (k1 : (¬ (x3 = (x2 : Int32))) → ∀ v μ', ψ1 v μ' → J l mX12_findsWay (jZ0 6 G (pI φ)) G 0 0 66 [.ref 112, .null, .int x2, .int x3, .null] [.int v] μ') :
    J l mX12_findsWay (jZ0 6 G (pI φ)) G 0 0 56 [.ref 112, .null, .int x2, .int x3, .null] [] μ := by
  refine j_iload_n dX12_findsWay_56 rfl rfl ?_
  refine j_iload_n dX12_findsWay_57 rfl rfl ?_
  refine j_icmp_eq 100 dX12_findsWay_58 rfl (by decide) (fun c0 => ?_) (fun c0 => ?_)
  · skip
    refine j_iconst 1 dX12_findsWay_100 rfl (by decide) ?_
    exact j_zret dX12_findsWay_101 rfl (by decide) (k0 c0)
  · skip
    refine j_aload_n dX12_findsWay_61 rfl rfl ?_
    refine j_iload_n dX12_findsWay_62 rfl rfl ?_
    refine j_cV (as := [.int x3]) (rest := []) dX12_findsWay_63 rfl vw_X12_412 (hG 112 (17, 80) rfl) rfl ⟨Nat.le_of_ble_eq_true rfl, Nat.le_of_ble_eq_true rfl⟩ rfl rfl (fun _ _ => Nat.le_of_ble_eq_true rfl) (e1 c0) (fun r μ' hr => ?_)
    obtain ⟨v, rfl, hr⟩ := hr
    exact k1 c0 v μ' hr
theorem b_X12_findsWay_66 {l : Launch} {G : jG} {μ : jM} {φ : Int32 → jM → Prop} {x2 x3 z0 : Int32} {ψ0 : Int32 → jM → Prop} (hG : gMM G) (hP : gNN μ) 
    (o0 : vp_in (μ.1 112 65) 8) 
    (e0 : jC0 l mX12_through 0 G [.ref 112, .int z0, .int x3] (wI (wI μ 156 (Int32.toNatClampNeg (μ.1 112 65)) z0) 112 65 ((μ.1 112 65) + 1)) (pI ψ0)) 
    (k0 : ∀ v μ', ψ0 v μ' → J l mX12_findsWay (jZ0 6 G (pI φ)) G 0 0 96 [.ref 112, .null, .int x2, .null, .null] [.int v] μ') :
    J l mX12_findsWay (jZ0 6 G (pI φ)) G 0 0 66 [.ref 112, .null, .int x2, .int x3, .null] [.int z0] μ := by
  refine j_istore (ls' := [.ref 112, .null, .int x2, .int x3, .int z0]) dX12_findsWay_66 rfl (Nat.le_of_ble_eq_true rfl) rfl ?_
  refine j_aload_n dX12_findsWay_68 rfl rfl ?_
  refine j_getR (ci := 12) (N := 80) (f := 64) (T := TX12) 156 dX12_findsWay_69 rfl (hG 112 (17, 80) rfl) rfl (by decide) fl_X12_149 rfl (hP 112 64 156 rfl) ?_
  refine j_aload_n dX12_findsWay_72 rfl rfl ?_
  refine j_getI (ci := 12) (N := 80) (f := 65) (T := TX12) dX12_findsWay_73 rfl (hG 112 (17, 80) rfl) rfl (by decide) fl_X12_409 rfl ?_
  refine j_iload dX12_findsWay_76 rfl rfl ?_
  refine j_iast' (j := (Int32.toNatClampNeg (μ.1 112 65))) dX12_findsWay_78 rfl (hG 156 (0, 8) rfl) o0 rfl ?_
  refine j_aload_n dX12_findsWay_79 rfl rfl ?_
  refine j_dup dX12_findsWay_80 rfl (fun _ _ => rfl) ?_
  refine j_getI (ci := 12) (N := 80) (f := 65) (T := TX12) dX12_findsWay_81 rfl (hG 112 (17, 80) rfl) rfl (by decide) fl_X12_409 rfl ?_
  refine j_iconst 1 dX12_findsWay_84 rfl (by decide) ?_
  refine j_iadd dX12_findsWay_85 rfl ?_
  refine j_putI (ci := 12) (N := 80) (f := 65) (T := TX12) dX12_findsWay_86 rfl (hG 112 (17, 80) rfl) rfl (by decide) fl_X12_409 rfl rfl ?_
  refine j_aload_n dX12_findsWay_89 rfl rfl ?_
  refine j_iload dX12_findsWay_90 rfl rfl ?_
  refine j_iload_n dX12_findsWay_92 rfl rfl ?_
  refine j_cV (as := [.int z0, .int x3]) (rest := []) dX12_findsWay_93 rfl vw_X12_400 (hG 112 (17, 80) rfl) rfl ⟨Nat.le_of_ble_eq_true rfl, Nat.le_of_ble_eq_true rfl⟩ rfl rfl (fun _ _ => Nat.le_of_ble_eq_true rfl) (e0 ) (fun r μ' hr => ?_)
  obtain ⟨v, rfl, hr⟩ := hr
  refine j_forget (ls' := [.ref 112, .null, .int x2, .null, .null]) ⟨Or.inr rfl, Or.inr rfl, Or.inr rfl, Or.inl rfl, Or.inl rfl, trivial⟩ ?_
  exact k0  v μ' hr
theorem b_X12_findsWay_96 {l : Launch} {G : jG} {μ : jM} {φ : Int32 → jM → Prop} {x2 z0 : Int32} (hG : gMM G) (hP : gNN μ) 
    (k0 : J l mX12_findsWay (jZ0 6 G (pI φ)) G 0 0 56 [.ref 112, .null, .int x2, .int z0, .null] [] μ) :
    J l mX12_findsWay (jZ0 6 G (pI φ)) G 0 0 96 [.ref 112, .null, .int x2, .null, .null] [.int z0] μ := by
  refine j_istore_n (ls' := [.ref 112, .null, .int x2, .int z0, .null]) dX12_findsWay_96 rfl rfl (Nat.le_of_ble_eq_true rfl) rfl ?_
  refine j_goto 56 dX12_findsWay_97 (by decide) ?_
  exact k0 
theorem b_X12_goesHis_0 {l : Launch} {G : jG} {μ : jM} {φ : jM → Prop} {x1 : Int32} (hG : gMM G) (hP : gNN μ) 
    (o0 : vp_in ((7 * (μ.1 112 18)) + x1) 14) 
    (o1 : vp_in (43 + x1) 68) 
    (k0 : J l mX12_goesHis (jZ0 1 G (pV φ)) G 0 0 30 [.ref 112, .int x1, .int (μ.1 133 (Int32.toNatClampNeg ((7 * (μ.1 112 18)) + x1))), .int 0, .null, .null] [] (wI μ 152 (Int32.toNatClampNeg (43 + x1)) ((μ.1 152 (Int32.toNatClampNeg (43 + x1))) + 1))) :
    J l mX12_goesHis (jZ0 1 G (pV φ)) G 0 0 0 [.ref 112, .int x1, .null, .null, .null, .null] [] μ := by
  refine j_aload_n dX12_goesHis_0 rfl rfl ?_
  refine j_getR (ci := 12) (N := 80) (f := 34) (T := TX12) 133 dX12_goesHis_1 rfl (hG 112 (17, 80) rfl) rfl (by decide) fl_X12_80 rfl (hP 112 34 133 rfl) ?_
  refine j_bipush 7 dX12_goesHis_4 rfl (by decide) ?_
  refine j_aload_n dX12_goesHis_6 rfl rfl ?_
  refine j_getI (ci := 12) (N := 80) (f := 18) (T := TX12) dX12_goesHis_7 rfl (hG 112 (17, 80) rfl) rfl (by decide) fl_X12_263 rfl ?_
  refine j_imul dX12_goesHis_10 rfl ?_
  refine j_iload_n dX12_goesHis_11 rfl rfl ?_
  refine j_iadd dX12_goesHis_12 rfl ?_
  refine j_iald' (j := (Int32.toNatClampNeg ((7 * (μ.1 112 18)) + x1))) dX12_goesHis_13 rfl (hG 133 (0, 14) rfl) o0 rfl ?_
  refine j_istore_n (ls' := [.ref 112, .int x1, .int (μ.1 133 (Int32.toNatClampNeg ((7 * (μ.1 112 18)) + x1))), .null, .null, .null]) dX12_goesHis_14 rfl rfl (Nat.le_of_ble_eq_true rfl) rfl ?_
  refine j_aload_n dX12_goesHis_15 rfl rfl ?_
  refine j_getR (ci := 12) (N := 80) (f := 57) (T := TX12) 152 dX12_goesHis_16 rfl (hG 112 (17, 80) rfl) rfl (by decide) fl_X12_137 rfl (hP 112 57 152 rfl) ?_
  refine j_bipush 43 dX12_goesHis_19 rfl (by decide) ?_
  refine j_iload_n dX12_goesHis_21 rfl rfl ?_
  refine j_iadd dX12_goesHis_22 rfl ?_
  refine j_dup2 dX12_goesHis_23 rfl (fun _ _ => rfl) (fun _ _ => rfl) ?_
  refine j_iald' (j := (Int32.toNatClampNeg (43 + x1))) dX12_goesHis_24 rfl (hG 152 (0, 68) rfl) o1 rfl ?_
  refine j_iconst 1 dX12_goesHis_25 rfl (by decide) ?_
  refine j_iadd dX12_goesHis_26 rfl ?_
  refine j_iast' (j := (Int32.toNatClampNeg (43 + x1))) dX12_goesHis_27 rfl (hG 152 (0, 68) rfl) o1 rfl ?_
  refine j_iconst 0 dX12_goesHis_28 rfl (by decide) ?_
  refine j_istore_n (ls' := [.ref 112, .int x1, .int (μ.1 133 (Int32.toNatClampNeg ((7 * (μ.1 112 18)) + x1))), .int 0, .null, .null]) dX12_goesHis_29 rfl rfl (Nat.le_of_ble_eq_true rfl) rfl ?_
  exact k0 
theorem b_X12_goesHis_30 {l : Launch} {G : jG} {μ : jM} {φ : jM → Prop} {x1 x2 x3 : Int32} (hG : gMM G) (hP : gNN μ) 
    (k0 : ((μ.1 112 65) ≤ (x3 : Int32)) → φ μ) 
    (o0 : (¬ ((μ.1 112 65) ≤ (x3 : Int32))) → vp_in x3 8) 
    (o1 : (¬ ((μ.1 112 65) ≤ (x3 : Int32))) → vp_in (μ.1 156 (Int32.toNatClampNeg x3)) 12) 
    (k1 : (¬ ((μ.1 112 65) ≤ (x3 : Int32))) → (x2 ≤ ((μ.1 155 (Int32.toNatClampNeg (μ.1 156 (Int32.toNatClampNeg x3)))) : Int32)) → J l mX12_goesHis (jZ0 1 G (pV φ)) G 0 0 68 [.ref 112, .int x1, .int x2, .int x3, .int (μ.1 156 (Int32.toNatClampNeg x3)), .null] [.int x2] μ) 
    (k2 : (¬ ((μ.1 112 65) ≤ (x3 : Int32))) → (¬ (x2 ≤ ((μ.1 155 (Int32.toNatClampNeg (μ.1 156 (Int32.toNatClampNeg x3)))) : Int32))) → J l mX12_goesHis (jZ0 1 G (pV φ)) G 0 0 68 [.ref 112, .int x1, .int x2, .int x3, .int (μ.1 156 (Int32.toNatClampNeg x3)), .null] [.int (μ.1 155 (Int32.toNatClampNeg (μ.1 156 (Int32.toNatClampNeg x3))))] μ) :
    J l mX12_goesHis (jZ0 1 G (pV φ)) G 0 0 30 [.ref 112, .int x1, .int x2, .int x3, .null, .null] [] μ := by
  refine j_iload_n dX12_goesHis_30 rfl rfl ?_
  refine j_aload_n dX12_goesHis_31 rfl rfl ?_
  refine j_getI (ci := 12) (N := 80) (f := 65) (T := TX12) dX12_goesHis_32 rfl (hG 112 (17, 80) rfl) rfl (by decide) fl_X12_409 rfl ?_
  refine j_icmp_ge 172 dX12_goesHis_35 rfl (by decide) (fun c0 => ?_) (fun c0 => ?_)
  · skip
    exact j_vret dX12_goesHis_172 rfl (k0 c0)
  · skip
    refine j_aload_n dX12_goesHis_38 rfl rfl ?_
    refine j_getR (ci := 12) (N := 80) (f := 64) (T := TX12) 156 dX12_goesHis_39 rfl (hG 112 (17, 80) rfl) rfl (by decide) fl_X12_149 rfl (hP 112 64 156 rfl) ?_
    refine j_iload_n dX12_goesHis_42 rfl rfl ?_
    refine j_iald' (j := (Int32.toNatClampNeg x3)) dX12_goesHis_43 rfl (hG 156 (0, 8) rfl) (o0 c0) rfl ?_
    refine j_istore (ls' := [.ref 112, .int x1, .int x2, .int x3, .int (μ.1 156 (Int32.toNatClampNeg x3)), .null]) dX12_goesHis_44 rfl (Nat.le_of_ble_eq_true rfl) rfl ?_
    refine j_aload_n dX12_goesHis_46 rfl rfl ?_
    refine j_getR (ci := 12) (N := 80) (f := 63) (T := TX12) 155 dX12_goesHis_47 rfl (hG 112 (17, 80) rfl) rfl (by decide) fl_X12_146 rfl (hP 112 63 155 rfl) ?_
    refine j_iload dX12_goesHis_50 rfl rfl ?_
    refine j_iald' (j := (Int32.toNatClampNeg (μ.1 156 (Int32.toNatClampNeg x3)))) dX12_goesHis_52 rfl (hG 155 (0, 12) rfl) (o1 c0) rfl ?_
    refine j_iload_n dX12_goesHis_53 rfl rfl ?_
    refine j_icmp_ge 67 dX12_goesHis_54 rfl (by decide) (fun c1 => ?_) (fun c1 => ?_)
    · skip
      refine j_iload_n dX12_goesHis_67 rfl rfl ?_
      exact k1 c0 c1
    · skip
      refine j_aload_n dX12_goesHis_57 rfl rfl ?_
      refine j_getR (ci := 12) (N := 80) (f := 63) (T := TX12) 155 dX12_goesHis_58 rfl (hG 112 (17, 80) rfl) rfl (by decide) fl_X12_146 rfl (hP 112 63 155 rfl) ?_
      refine j_iload dX12_goesHis_61 rfl rfl ?_
      refine j_iald' (j := (Int32.toNatClampNeg (μ.1 156 (Int32.toNatClampNeg x3)))) dX12_goesHis_63 rfl (hG 155 (0, 12) rfl) (o1 c0) rfl ?_
      refine j_goto 68 dX12_goesHis_64 (by decide) ?_
      exact k2 c0 c1
theorem b_X12_goesHis_68 {l : Launch} {G : jG} {μ : jM} {φ : jM → Prop} {x1 x2 x3 x4 z0 : Int32} {ψ0 : Int32 → jM → Prop} (hG : gMM G) (hP : gNN μ) 
    (o0 : vp_in (24 + x4) 68) 
    (o1 : vp_in (36 + x1) 68) 
    (o2 : vp_in x4 68) 
    (e0 : jC0 l mX12_overField 0 G [.ref 112, .int x4] (wI (wI (wI (wI μ 152 (Int32.toNatClampNeg (24 + x4)) ((μ.1 152 (Int32.toNatClampNeg (24 + x4))) + z0)) 152 (Int32.toNatClampNeg (36 + x1)) (((wI μ 152 (Int32.toNatClampNeg (24 + x4)) ((μ.1 152 (Int32.toNatClampNeg (24 + x4))) + z0)).1 152 (Int32.toNatClampNeg (36 + x1))) + z0)) 152 66 (((wI (wI μ 152 (Int32.toNatClampNeg (24 + x4)) ((μ.1 152 (Int32.toNatClampNeg (24 + x4))) + z0)) 152 (Int32.toNatClampNeg (36 + x1)) (((wI μ 152 (Int32.toNatClampNeg (24 + x4)) ((μ.1 152 (Int32.toNatClampNeg (24 + x4))) + z0)).1 152 (Int32.toNatClampNeg (36 + x1))) + z0)).1 152 66) + z0)) 152 (Int32.toNatClampNeg x4) (((wI (wI (wI μ 152 (Int32.toNatClampNeg (24 + x4)) ((μ.1 152 (Int32.toNatClampNeg (24 + x4))) + z0)) 152 (Int32.toNatClampNeg (36 + x1)) (((wI μ 152 (Int32.toNatClampNeg (24 + x4)) ((μ.1 152 (Int32.toNatClampNeg (24 + x4))) + z0)).1 152 (Int32.toNatClampNeg (36 + x1))) + z0)) 152 66 (((wI (wI μ 152 (Int32.toNatClampNeg (24 + x4)) ((μ.1 152 (Int32.toNatClampNeg (24 + x4))) + z0)) 152 (Int32.toNatClampNeg (36 + x1)) (((wI μ 152 (Int32.toNatClampNeg (24 + x4)) ((μ.1 152 (Int32.toNatClampNeg (24 + x4))) + z0)).1 152 (Int32.toNatClampNeg (36 + x1))) + z0)).1 152 66) + z0)).1 152 (Int32.toNatClampNeg x4)) + 1)) (pI ψ0)) 
    (k0 : ∀ v μ', ψ0 v μ' → J l mX12_goesHis (jZ0 1 G (pV φ)) G 0 0 133 [.ref 112, .int x1, .int (x2 - z0), .int x3, .int x4, .null] [.int v] μ') :
    J l mX12_goesHis (jZ0 1 G (pV φ)) G 0 0 68 [.ref 112, .int x1, .int x2, .int x3, .int x4, .null] [.int z0] μ := by
  refine j_istore (ls' := [.ref 112, .int x1, .int x2, .int x3, .int x4, .int z0]) dX12_goesHis_68 rfl (Nat.le_of_ble_eq_true rfl) rfl ?_
  refine j_iload_n dX12_goesHis_70 rfl rfl ?_
  refine j_iload dX12_goesHis_71 rfl rfl ?_
  refine j_isub dX12_goesHis_73 rfl ?_
  refine j_istore_n (ls' := [.ref 112, .int x1, .int (x2 - z0), .int x3, .int x4, .int z0]) dX12_goesHis_74 rfl rfl (Nat.le_of_ble_eq_true rfl) rfl ?_
  refine j_aload_n dX12_goesHis_75 rfl rfl ?_
  refine j_getR (ci := 12) (N := 80) (f := 57) (T := TX12) 152 dX12_goesHis_76 rfl (hG 112 (17, 80) rfl) rfl (by decide) fl_X12_137 rfl (hP 112 57 152 rfl) ?_
  refine j_bipush 24 dX12_goesHis_79 rfl (by decide) ?_
  refine j_iload dX12_goesHis_81 rfl rfl ?_
  refine j_iadd dX12_goesHis_83 rfl ?_
  refine j_dup2 dX12_goesHis_84 rfl (fun _ _ => rfl) (fun _ _ => rfl) ?_
  refine j_iald' (j := (Int32.toNatClampNeg (24 + x4))) dX12_goesHis_85 rfl (hG 152 (0, 68) rfl) o0 rfl ?_
  refine j_iload dX12_goesHis_86 rfl rfl ?_
  refine j_iadd dX12_goesHis_88 rfl ?_
  refine j_iast' (j := (Int32.toNatClampNeg (24 + x4))) dX12_goesHis_89 rfl (hG 152 (0, 68) rfl) o0 rfl ?_
  refine j_aload_n dX12_goesHis_90 rfl rfl ?_
  refine j_getR (ci := 12) (N := 80) (f := 57) (T := TX12) 152 dX12_goesHis_91 rfl (hG 112 (17, 80) rfl) rfl (by decide) fl_X12_137 rfl (hP 112 57 152 rfl) ?_
  refine j_bipush 36 dX12_goesHis_94 rfl (by decide) ?_
  refine j_iload_n dX12_goesHis_96 rfl rfl ?_
  refine j_iadd dX12_goesHis_97 rfl ?_
  refine j_dup2 dX12_goesHis_98 rfl (fun _ _ => rfl) (fun _ _ => rfl) ?_
  refine j_iald' (j := (Int32.toNatClampNeg (36 + x1))) dX12_goesHis_99 rfl (hG 152 (0, 68) rfl) o1 rfl ?_
  refine j_iload dX12_goesHis_100 rfl rfl ?_
  refine j_iadd dX12_goesHis_102 rfl ?_
  refine j_iast' (j := (Int32.toNatClampNeg (36 + x1))) dX12_goesHis_103 rfl (hG 152 (0, 68) rfl) o1 rfl ?_
  refine j_aload_n dX12_goesHis_104 rfl rfl ?_
  refine j_getR (ci := 12) (N := 80) (f := 57) (T := TX12) 152 dX12_goesHis_105 rfl (hG 112 (17, 80) rfl) rfl (by decide) fl_X12_137 rfl (hP 112 57 152 rfl) ?_
  refine j_bipush 66 dX12_goesHis_108 rfl (by decide) ?_
  refine j_dup2 dX12_goesHis_110 rfl (fun _ _ => rfl) (fun _ _ => rfl) ?_
  refine j_iald' (j := 66) dX12_goesHis_111 rfl (hG 152 (0, 68) rfl) (vpK (by decide)) (by decide) ?_
  refine j_iload dX12_goesHis_112 rfl rfl ?_
  refine j_iadd dX12_goesHis_114 rfl ?_
  refine j_iast' (j := 66) dX12_goesHis_115 rfl (hG 152 (0, 68) rfl) (vpK (by decide)) (by decide) ?_
  refine j_aload_n dX12_goesHis_116 rfl rfl ?_
  refine j_getR (ci := 12) (N := 80) (f := 57) (T := TX12) 152 dX12_goesHis_117 rfl (hG 112 (17, 80) rfl) rfl (by decide) fl_X12_137 rfl (hP 112 57 152 rfl) ?_
  refine j_iload dX12_goesHis_120 rfl rfl ?_
  refine j_dup2 dX12_goesHis_122 rfl (fun _ _ => rfl) (fun _ _ => rfl) ?_
  refine j_iald' (j := (Int32.toNatClampNeg x4)) dX12_goesHis_123 rfl (hG 152 (0, 68) rfl) o2 rfl ?_
  refine j_iconst 1 dX12_goesHis_124 rfl (by decide) ?_
  refine j_iadd dX12_goesHis_125 rfl ?_
  refine j_iast' (j := (Int32.toNatClampNeg x4)) dX12_goesHis_126 rfl (hG 152 (0, 68) rfl) o2 rfl ?_
  refine j_aload_n dX12_goesHis_127 rfl rfl ?_
  refine j_iload dX12_goesHis_128 rfl rfl ?_
  refine j_cV (as := [.int x4]) (rest := []) dX12_goesHis_130 rfl vw_X12_391 (hG 112 (17, 80) rfl) rfl ⟨Nat.le_of_ble_eq_true rfl, Nat.le_of_ble_eq_true rfl⟩ rfl rfl (fun _ _ => Nat.le_of_ble_eq_true rfl) (e0 ) (fun r μ' hr => ?_)
  obtain ⟨v, rfl, hr⟩ := hr
  refine j_forget (ls' := [.ref 112, .int x1, .int (x2 - z0), .int x3, .int x4, .null]) ⟨Or.inr rfl, Or.inr rfl, Or.inr rfl, Or.inr rfl, Or.inr rfl, Or.inl rfl, trivial⟩ ?_
  exact k0  v μ' hr
theorem b_X12_goesHis_133 {l : Launch} {G : jG} {μ : jM} {φ : jM → Prop} {x1 x2 x3 x4 z0 : Int32} (hG : gMM G) (hP : gNN μ) 
    (o0 : (¬ z0 = (0 : Int32)) → vp_in (12 + x4) 68) 
    (o1 : (¬ z0 = (0 : Int32)) → vp_in (57 + x1) 68) 
    (k0 : (¬ z0 = (0 : Int32)) → J l mX12_goesHis (jZ0 1 G (pV φ)) G 0 0 166 [.ref 112, .int x1, .int x2, .int x3, .null, .null] [] (wI (wI μ 152 (Int32.toNatClampNeg (12 + x4)) ((μ.1 152 (Int32.toNatClampNeg (12 + x4))) + 1)) 152 (Int32.toNatClampNeg (57 + x1)) (((wI μ 152 (Int32.toNatClampNeg (12 + x4)) ((μ.1 152 (Int32.toNatClampNeg (12 + x4))) + 1)).1 152 (Int32.toNatClampNeg (57 + x1))) + 1))) 
    (k1 : (z0 = (0 : Int32)) → J l mX12_goesHis (jZ0 1 G (pV φ)) G 0 0 166 [.ref 112, .int x1, .int x2, .int x3, .null, .null] [] μ) :
    J l mX12_goesHis (jZ0 1 G (pV φ)) G 0 0 133 [.ref 112, .int x1, .int x2, .int x3, .int x4, .null] [.int z0] μ := by
  refine j_if_ne 139 dX12_goesHis_133 rfl (by decide) (fun c0 => ?_) (fun c0 => ?_)
  · skip
    refine j_aload_n dX12_goesHis_139 rfl rfl ?_
    refine j_getR (ci := 12) (N := 80) (f := 57) (T := TX12) 152 dX12_goesHis_140 rfl (hG 112 (17, 80) rfl) rfl (by decide) fl_X12_137 rfl (hP 112 57 152 rfl) ?_
    refine j_bipush 12 dX12_goesHis_143 rfl (by decide) ?_
    refine j_iload dX12_goesHis_145 rfl rfl ?_
    refine j_iadd dX12_goesHis_147 rfl ?_
    refine j_dup2 dX12_goesHis_148 rfl (fun _ _ => rfl) (fun _ _ => rfl) ?_
    refine j_iald' (j := (Int32.toNatClampNeg (12 + x4))) dX12_goesHis_149 rfl (hG 152 (0, 68) rfl) (o0 c0) rfl ?_
    refine j_iconst 1 dX12_goesHis_150 rfl (by decide) ?_
    refine j_iadd dX12_goesHis_151 rfl ?_
    refine j_iast' (j := (Int32.toNatClampNeg (12 + x4))) dX12_goesHis_152 rfl (hG 152 (0, 68) rfl) (o0 c0) rfl ?_
    refine j_aload_n dX12_goesHis_153 rfl rfl ?_
    refine j_getR (ci := 12) (N := 80) (f := 57) (T := TX12) 152 dX12_goesHis_154 rfl (hG 112 (17, 80) rfl) rfl (by decide) fl_X12_137 rfl (hP 112 57 152 rfl) ?_
    refine j_bipush 57 dX12_goesHis_157 rfl (by decide) ?_
    refine j_iload_n dX12_goesHis_159 rfl rfl ?_
    refine j_iadd dX12_goesHis_160 rfl ?_
    refine j_dup2 dX12_goesHis_161 rfl (fun _ _ => rfl) (fun _ _ => rfl) ?_
    refine j_iald' (j := (Int32.toNatClampNeg (57 + x1))) dX12_goesHis_162 rfl (hG 152 (0, 68) rfl) (o1 c0) rfl ?_
    refine j_iconst 1 dX12_goesHis_163 rfl (by decide) ?_
    refine j_iadd dX12_goesHis_164 rfl ?_
    refine j_iast' (j := (Int32.toNatClampNeg (57 + x1))) dX12_goesHis_165 rfl (hG 152 (0, 68) rfl) (o1 c0) rfl ?_
    refine j_forget (ls' := [.ref 112, .int x1, .int x2, .int x3, .null, .null]) ⟨Or.inr rfl, Or.inr rfl, Or.inr rfl, Or.inr rfl, Or.inl rfl, Or.inr rfl, trivial⟩ ?_
    exact k0 c0
  · skip
    refine j_goto 166 dX12_goesHis_136 (by decide) ?_
    refine j_forget (ls' := [.ref 112, .int x1, .int x2, .int x3, .null, .null]) ⟨Or.inr rfl, Or.inr rfl, Or.inr rfl, Or.inr rfl, Or.inl rfl, Or.inr rfl, trivial⟩ ?_
    exact k1 c0
theorem b_X12_goesHis_166 {l : Launch} {G : jG} {μ : jM} {φ : jM → Prop} {x1 x2 x3 : Int32} (hG : gMM G) (hP : gNN μ) 
    (k0 : J l mX12_goesHis (jZ0 1 G (pV φ)) G 0 0 30 [.ref 112, .int x1, .int x2, .int (x3 + 1), .null, .null] [] μ) :
    J l mX12_goesHis (jZ0 1 G (pV φ)) G 0 0 166 [.ref 112, .int x1, .int x2, .int x3, .null, .null] [] μ := by
  refine j_iinc (x3 + 1) (ls' := [.ref 112, .int x1, .int x2, .int (x3 + 1), .null, .null]) dX12_goesHis_166 rfl rfl rfl (Nat.le_of_ble_eq_true rfl) rfl ?_
  refine j_goto 30 dX12_goesHis_169 (by decide) ?_
  exact k0 
theorem b_X12_isHis_0 {l : Launch} {G : jG} {μ : jM} {φ : Int32 → jM → Prop} {x1 : Int32} (hG : gMM G) (hP : gNN μ) 
    (o0 : vp_in ((7 * (μ.1 112 18)) + x1) 14) 
    (o1 : ¬ ((μ.1 134 (Int32.toNatClampNeg ((7 * (μ.1 112 18)) + x1))) : Int32) = 0) 
    (k0 : (¬ ((μ.1 152 67) - (μ.1 152 67) / (μ.1 134 (Int32.toNatClampNeg ((7 * (μ.1 112 18)) + x1))) * (μ.1 134 (Int32.toNatClampNeg ((7 * (μ.1 112 18)) + x1)))) = (0 : Int32)) → φ 0 μ) 
    (k1 : (((μ.1 152 67) - (μ.1 152 67) / (μ.1 134 (Int32.toNatClampNeg ((7 * (μ.1 112 18)) + x1))) * (μ.1 134 (Int32.toNatClampNeg ((7 * (μ.1 112 18)) + x1)))) = (0 : Int32)) → φ 1 μ) :
    J l mX12_isHis (jZ0 0 G (pI φ)) G 0 0 0 [.ref 112, .int x1] [] μ := by
  refine j_aload_n dX12_isHis_0 rfl rfl ?_
  refine j_getR (ci := 12) (N := 80) (f := 57) (T := TX12) 152 dX12_isHis_1 rfl (hG 112 (17, 80) rfl) rfl (by decide) fl_X12_137 rfl (hP 112 57 152 rfl) ?_
  refine j_bipush 67 dX12_isHis_4 rfl (by decide) ?_
  refine j_iald' (j := 67) dX12_isHis_6 rfl (hG 152 (0, 68) rfl) (vpK (by decide)) (by decide) ?_
  refine j_aload_n dX12_isHis_7 rfl rfl ?_
  refine j_getR (ci := 12) (N := 80) (f := 35) (T := TX12) 134 dX12_isHis_8 rfl (hG 112 (17, 80) rfl) rfl (by decide) fl_X12_83 rfl (hP 112 35 134 rfl) ?_
  refine j_bipush 7 dX12_isHis_11 rfl (by decide) ?_
  refine j_aload_n dX12_isHis_13 rfl rfl ?_
  refine j_getI (ci := 12) (N := 80) (f := 18) (T := TX12) dX12_isHis_14 rfl (hG 112 (17, 80) rfl) rfl (by decide) fl_X12_263 rfl ?_
  refine j_imul dX12_isHis_17 rfl ?_
  refine j_iload_n dX12_isHis_18 rfl rfl ?_
  refine j_iadd dX12_isHis_19 rfl ?_
  refine j_iald' (j := (Int32.toNatClampNeg ((7 * (μ.1 112 18)) + x1))) dX12_isHis_20 rfl (hG 134 (0, 14) rfl) o0 rfl ?_
  refine j_irem dX12_isHis_21 rfl o1 ?_
  refine j_if_ne 29 dX12_isHis_22 rfl (by decide) (fun c0 => ?_) (fun c0 => ?_)
  · skip
    refine j_iconst 0 dX12_isHis_29 rfl (by decide) ?_
    exact j_zret dX12_isHis_30 rfl (by decide) (k0 c0)
  · skip
    refine j_iconst 1 dX12_isHis_25 rfl (by decide) ?_
    refine j_goto 30 dX12_isHis_26 (by decide) ?_
    exact j_zret dX12_isHis_30 rfl (by decide) (k1 c0)
theorem b_X12_nightGoes_0 {l : Launch} {G : jG} {μ : jM} {φ : jM → Prop} (hG : gMM G) (hP : gNN μ) 
    (k0 : J l mX12_nightGoes (jZ0 7 G (pV φ)) G 0 0 2 [.ref 112, .int 0] [] μ) :
    J l mX12_nightGoes (jZ0 7 G (pV φ)) G 0 0 0 [.ref 112, .null] [] μ := by
  refine j_iconst 0 dX12_nightGoes_0 rfl (by decide) ?_
  refine j_istore_n (ls' := [.ref 112, .int 0]) dX12_nightGoes_1 rfl rfl (Nat.le_of_ble_eq_true rfl) rfl ?_
  exact k0 
theorem b_X12_nightGoes_2 {l : Launch} {G : jG} {μ : jM} {φ : jM → Prop} {x1 : Int32} {ψ2 : Int32 → jM → Prop} (hG : gMM G) (hP : gNN μ) 
    (o0 : vp_in (μ.1 112 18) 2) 
    (k0 : ((μ.1 129 (Int32.toNatClampNeg (μ.1 112 18))) ≤ (x1 : Int32)) → φ (wI μ 152 67 ((μ.1 152 67) + 1))) 
    (k1 : (¬ ((μ.1 129 (Int32.toNatClampNeg (μ.1 112 18))) ≤ (x1 : Int32))) → ((((μ.1 112 59) >>> (x1 &&& 31)) &&& 1) = (0 : Int32)) → J l mX12_nightGoes (jZ0 7 G (pV φ)) G 0 0 2 [.ref 112, .int (x1 + 1)] [] μ) 
    (e2 : (¬ ((μ.1 129 (Int32.toNatClampNeg (μ.1 112 18))) ≤ (x1 : Int32))) → (¬ ((((μ.1 112 59) >>> (x1 &&& 31)) &&& 1) = (0 : Int32))) → jC0 l mX12_isHis 0 G [.ref 112, .int x1] μ (pI ψ2)) 
    (k2 : (¬ ((μ.1 129 (Int32.toNatClampNeg (μ.1 112 18))) ≤ (x1 : Int32))) → (¬ ((((μ.1 112 59) >>> (x1 &&& 31)) &&& 1) = (0 : Int32))) → ∀ v μ', ψ2 v μ' → J l mX12_nightGoes (jZ0 7 G (pV φ)) G 0 0 31 [.ref 112, .int x1] [.int v] μ') :
    J l mX12_nightGoes (jZ0 7 G (pV φ)) G 0 0 2 [.ref 112, .int x1] [] μ := by
  refine j_iload_n dX12_nightGoes_2 rfl rfl ?_
  refine j_aload_n dX12_nightGoes_3 rfl rfl ?_
  refine j_getR (ci := 12) (N := 80) (f := 30) (T := TX12) 129 dX12_nightGoes_4 rfl (hG 112 (17, 80) rfl) rfl (by decide) fl_X12_68 rfl (hP 112 30 129 rfl) ?_
  refine j_aload_n dX12_nightGoes_7 rfl rfl ?_
  refine j_getI (ci := 12) (N := 80) (f := 18) (T := TX12) dX12_nightGoes_8 rfl (hG 112 (17, 80) rfl) rfl (by decide) fl_X12_263 rfl ?_
  refine j_iald' (j := (Int32.toNatClampNeg (μ.1 112 18))) dX12_nightGoes_11 rfl (hG 129 (0, 2) rfl) o0 rfl ?_
  refine j_icmp_ge 72 dX12_nightGoes_12 rfl (by decide) (fun c0 => ?_) (fun c0 => ?_)
  · skip
    refine j_aload_n dX12_nightGoes_72 rfl rfl ?_
    refine j_getR (ci := 12) (N := 80) (f := 57) (T := TX12) 152 dX12_nightGoes_73 rfl (hG 112 (17, 80) rfl) rfl (by decide) fl_X12_137 rfl (hP 112 57 152 rfl) ?_
    refine j_bipush 67 dX12_nightGoes_76 rfl (by decide) ?_
    refine j_dup2 dX12_nightGoes_78 rfl (fun _ _ => rfl) (fun _ _ => rfl) ?_
    refine j_iald' (j := 67) dX12_nightGoes_79 rfl (hG 152 (0, 68) rfl) (vpK (by decide)) (by decide) ?_
    refine j_iconst 1 dX12_nightGoes_80 rfl (by decide) ?_
    refine j_iadd dX12_nightGoes_81 rfl ?_
    refine j_iast' (j := 67) dX12_nightGoes_82 rfl (hG 152 (0, 68) rfl) (vpK (by decide)) (by decide) ?_
    exact j_vret dX12_nightGoes_83 rfl (k0 c0)
  · skip
    refine j_aload_n dX12_nightGoes_15 rfl rfl ?_
    refine j_getI (ci := 12) (N := 80) (f := 59) (T := TX12) dX12_nightGoes_16 rfl (hG 112 (17, 80) rfl) rfl (by decide) fl_X12_356 rfl ?_
    refine j_iload_n dX12_nightGoes_19 rfl rfl ?_
    refine j_ishr dX12_nightGoes_20 rfl ?_
    refine j_iconst 1 dX12_nightGoes_21 rfl (by decide) ?_
    refine j_iand dX12_nightGoes_22 rfl ?_
    refine j_if_eq 66 dX12_nightGoes_23 rfl (by decide) (fun c1 => ?_) (fun c1 => ?_)
    · skip
      refine j_iinc (x1 + 1) (ls' := [.ref 112, .int (x1 + 1)]) dX12_nightGoes_66 rfl rfl rfl (Nat.le_of_ble_eq_true rfl) rfl ?_
      refine j_goto 2 dX12_nightGoes_69 (by decide) ?_
      exact k1 c0 c1
    · skip
      refine j_aload_n dX12_nightGoes_26 rfl rfl ?_
      refine j_iload_n dX12_nightGoes_27 rfl rfl ?_
      refine j_cV (as := [.int x1]) (rest := []) dX12_nightGoes_28 rfl vw_X12_415 (hG 112 (17, 80) rfl) rfl ⟨Nat.le_of_ble_eq_true rfl, Nat.le_of_ble_eq_true rfl⟩ rfl rfl (fun _ _ => Nat.le_of_ble_eq_true rfl) (e2 c0 c1) (fun r μ' hr => ?_)
      obtain ⟨v, rfl, hr⟩ := hr
      exact k2 c0 c1 v μ' hr
theorem b_X12_nightGoes_31 {l : Launch} {G : jG} {μ : jM} {φ : jM → Prop} {x1 z0 : Int32} {ψ0 : Int32 → jM → Prop} (hG : gMM G) (hP : gNN μ) 
    (e0 : (¬ z0 = (0 : Int32)) → jC0 l mX12_findsWay 6 G [.ref 112, .int x1] μ (pI ψ0)) 
    (k0 : (¬ z0 = (0 : Int32)) → ∀ v μ', ψ0 v μ' → J l mX12_nightGoes (jZ0 7 G (pV φ)) G 0 0 42 [.ref 112, .int x1] [.int v] μ') 
    (k1 : (z0 = (0 : Int32)) → J l mX12_nightGoes (jZ0 7 G (pV φ)) G 0 0 2 [.ref 112, .int (x1 + 1)] [] μ) :
    J l mX12_nightGoes (jZ0 7 G (pV φ)) G 0 0 31 [.ref 112, .int x1] [.int z0] μ := by
  refine j_if_ne 37 dX12_nightGoes_31 rfl (by decide) (fun c0 => ?_) (fun c0 => ?_)
  · skip
    refine j_aload_n dX12_nightGoes_37 rfl rfl ?_
    refine j_iload_n dX12_nightGoes_38 rfl rfl ?_
    refine j_cV (as := [.int x1]) (rest := []) dX12_nightGoes_39 rfl vw_X12_418 (hG 112 (17, 80) rfl) rfl ⟨Nat.le_of_ble_eq_true rfl, Nat.le_of_ble_eq_true rfl⟩ rfl rfl (fun _ _ => Nat.le_of_ble_eq_true rfl) (e0 c0) (fun r μ' hr => ?_)
    obtain ⟨v, rfl, hr⟩ := hr
    exact k0 c0 v μ' hr
  · skip
    refine j_goto 66 dX12_nightGoes_34 (by decide) ?_
    refine j_iinc (x1 + 1) (ls' := [.ref 112, .int (x1 + 1)]) dX12_nightGoes_66 rfl rfl rfl (Nat.le_of_ble_eq_true rfl) rfl ?_
    refine j_goto 2 dX12_nightGoes_69 (by decide) ?_
    exact k1 c0
theorem b_X12_nightGoes_42 {l : Launch} {G : jG} {μ : jM} {φ : jM → Prop} {x1 z0 : Int32} {ψ1 : jM → Prop} (hG : gMM G) (hP : gNN μ) 
    (o0 : (z0 = (0 : Int32)) → vp_in (50 + x1) 68) 
    (k0 : (z0 = (0 : Int32)) → J l mX12_nightGoes (jZ0 7 G (pV φ)) G 0 0 2 [.ref 112, .int (x1 + 1)] [] (wI μ 152 (Int32.toNatClampNeg (50 + x1)) ((μ.1 152 (Int32.toNatClampNeg (50 + x1))) + 1))) 
    (e1 : (¬ (z0 = (0 : Int32))) → jC0 l mX12_goesHis 1 G [.ref 112, .int x1] μ (pV ψ1)) 
    (k1 : (¬ (z0 = (0 : Int32))) → ∀ μ', ψ1 μ' → J l mX12_nightGoes (jZ0 7 G (pV φ)) G 0 0 50 [.ref 112, .int x1] [] μ') :
    J l mX12_nightGoes (jZ0 7 G (pV φ)) G 0 0 42 [.ref 112, .int x1] [.int z0] μ := by
  refine j_if_eq 53 dX12_nightGoes_42 rfl (by decide) (fun c0 => ?_) (fun c0 => ?_)
  · skip
    refine j_aload_n dX12_nightGoes_53 rfl rfl ?_
    refine j_getR (ci := 12) (N := 80) (f := 57) (T := TX12) 152 dX12_nightGoes_54 rfl (hG 112 (17, 80) rfl) rfl (by decide) fl_X12_137 rfl (hP 112 57 152 rfl) ?_
    refine j_bipush 50 dX12_nightGoes_57 rfl (by decide) ?_
    refine j_iload_n dX12_nightGoes_59 rfl rfl ?_
    refine j_iadd dX12_nightGoes_60 rfl ?_
    refine j_dup2 dX12_nightGoes_61 rfl (fun _ _ => rfl) (fun _ _ => rfl) ?_
    refine j_iald' (j := (Int32.toNatClampNeg (50 + x1))) dX12_nightGoes_62 rfl (hG 152 (0, 68) rfl) (o0 c0) rfl ?_
    refine j_iconst 1 dX12_nightGoes_63 rfl (by decide) ?_
    refine j_iadd dX12_nightGoes_64 rfl ?_
    refine j_iast' (j := (Int32.toNatClampNeg (50 + x1))) dX12_nightGoes_65 rfl (hG 152 (0, 68) rfl) (o0 c0) rfl ?_
    refine j_iinc (x1 + 1) (ls' := [.ref 112, .int (x1 + 1)]) dX12_nightGoes_66 rfl rfl rfl (Nat.le_of_ble_eq_true rfl) rfl ?_
    refine j_goto 2 dX12_nightGoes_69 (by decide) ?_
    exact k0 c0
  · skip
    refine j_aload_n dX12_nightGoes_45 rfl rfl ?_
    refine j_iload_n dX12_nightGoes_46 rfl rfl ?_
    refine j_cV (as := [.int x1]) (rest := []) dX12_nightGoes_47 rfl vw_X12_421 (hG 112 (17, 80) rfl) rfl ⟨Nat.le_of_ble_eq_true rfl, Nat.le_of_ble_eq_true rfl⟩ rfl rfl (fun _ _ => Nat.le_of_ble_eq_true rfl) (e1 c0) (fun r μ' hr => ?_)
    obtain ⟨rfl, hr⟩ := hr
    exact k1 c0 μ' hr
theorem b_X12_nightGoes_50 {l : Launch} {G : jG} {μ : jM} {φ : jM → Prop} {x1 : Int32} (hG : gMM G) (hP : gNN μ) 
    (k0 : J l mX12_nightGoes (jZ0 7 G (pV φ)) G 0 0 2 [.ref 112, .int (x1 + 1)] [] μ) :
    J l mX12_nightGoes (jZ0 7 G (pV φ)) G 0 0 50 [.ref 112, .int x1] [] μ := by
  refine j_goto 66 dX12_nightGoes_50 (by decide) ?_
  refine j_iinc (x1 + 1) (ls' := [.ref 112, .int (x1 + 1)]) dX12_nightGoes_66 rfl rfl rfl (Nat.le_of_ble_eq_true rfl) rfl ?_
  refine j_goto 2 dX12_nightGoes_69 (by decide) ?_
  exact k0 
theorem b_X12_goes_0 {l : Launch} {G : jG} {μ : jM} {φ : jM → Prop} {x1 : Int32} (hG : gMM G) (hP : gNN μ) 
    (k0 : J l mX12_goes (jZ0 8 G (pV φ)) G 0 0 2 [.ref 112, .int x1, .int 0] [] μ) :
    J l mX12_goes (jZ0 8 G (pV φ)) G 0 0 0 [.ref 112, .int x1, .null] [] μ := by
  refine j_iconst 0 dX12_goes_0 rfl (by decide) ?_
  refine j_istore_n (ls' := [.ref 112, .int x1, .int 0]) dX12_goes_1 rfl rfl (Nat.le_of_ble_eq_true rfl) rfl ?_
  exact k0 
theorem b_X12_goes_2 {l : Launch} {G : jG} {μ : jM} {φ : jM → Prop} {x1 x2 : Int32} {ψ1 : jM → Prop} (hG : gMM G) (hP : gNN μ) 
    (k0 : (x1 ≤ (x2 : Int32)) → φ μ) 
    (e1 : (¬ (x1 ≤ (x2 : Int32))) → jC0 l mX12_nightGoes 7 G [.ref 112] μ (pV ψ1)) 
    (k1 : (¬ (x1 ≤ (x2 : Int32))) → ∀ μ', ψ1 μ' → J l mX12_goes (jZ0 8 G (pV φ)) G 0 0 11 [.ref 112, .int x1, .int x2] [] μ') :
    J l mX12_goes (jZ0 8 G (pV φ)) G 0 0 2 [.ref 112, .int x1, .int x2] [] μ := by
  refine j_iload_n dX12_goes_2 rfl rfl ?_
  refine j_iload_n dX12_goes_3 rfl rfl ?_
  refine j_icmp_ge 17 dX12_goes_4 rfl (by decide) (fun c0 => ?_) (fun c0 => ?_)
  · skip
    exact j_vret dX12_goes_17 rfl (k0 c0)
  · skip
    refine j_aload_n dX12_goes_7 rfl rfl ?_
    refine j_cV (as := []) (rest := []) dX12_goes_8 rfl vw_X12_424 (hG 112 (17, 80) rfl) rfl ⟨Nat.le_of_ble_eq_true rfl, Nat.le_of_ble_eq_true rfl⟩ rfl rfl (fun _ _ => Nat.le_of_ble_eq_true rfl) (e1 c0) (fun r μ' hr => ?_)
    obtain ⟨rfl, hr⟩ := hr
    exact k1 c0 μ' hr
theorem b_X12_goes_11 {l : Launch} {G : jG} {μ : jM} {φ : jM → Prop} {x1 x2 : Int32} (hG : gMM G) (hP : gNN μ) 
    (k0 : J l mX12_goes (jZ0 8 G (pV φ)) G 0 0 2 [.ref 112, .int x1, .int (x2 + 1)] [] μ) :
    J l mX12_goes (jZ0 8 G (pV φ)) G 0 0 11 [.ref 112, .int x1, .int x2] [] μ := by
  refine j_iinc (x2 + 1) (ls' := [.ref 112, .int x1, .int (x2 + 1)]) dX12_goes_11 rfl rfl rfl (Nat.le_of_ble_eq_true rfl) rfl ?_
  refine j_goto 2 dX12_goes_14 (by decide) ?_
  exact k0 
theorem b_X12_road_0 {l : Launch} {G : jG} {μ : jM} {φ : Int32 → jM → Prop} {x1 x2 : Int32} {ψ0 : Int32 → jM → Prop} (hG : gMM G) (hP : gNN μ) 
    (e0 : jC0 l mX12_isRoad 1 G [.ref 112, .int x1] μ (pI ψ0)) 
    (k0 : ∀ v μ', ψ0 v μ' → J l mX12_road (jZ0 3 G (pI φ)) G 0 0 5 [.ref 112, .int x1, .int x2] [.int v] μ') :
    J l mX12_road (jZ0 3 G (pI φ)) G 0 0 0 [.ref 112, .int x1, .int x2] [] μ := by
  refine j_aload_n dX12_road_0 rfl rfl ?_
  refine j_iload_n dX12_road_1 rfl rfl ?_
  refine j_cV (as := [.int x1]) (rest := []) dX12_road_2 rfl vw_X12_427 (hG 112 (17, 80) rfl) rfl ⟨Nat.le_of_ble_eq_true rfl, Nat.le_of_ble_eq_true rfl⟩ rfl rfl (fun _ _ => Nat.le_of_ble_eq_true rfl) (e0 ) (fun r μ' hr => ?_)
  obtain ⟨v, rfl, hr⟩ := hr
  exact k0  v μ' hr
theorem b_X12_road_5 {l : Launch} {G : jG} {μ : jM} {φ : Int32 → jM → Prop} {x1 x2 z0 : Int32} {ψ0 : jM → Prop} (hG : gMM G) (hP : gNN μ) 
    (e0 : (¬ z0 = (0 : Int32)) → jC0 l mX12_copies 1 G [.ref 112] μ (pV ψ0)) 
    (k0 : (¬ z0 = (0 : Int32)) → ∀ μ', ψ0 μ' → J l mX12_road (jZ0 3 G (pI φ)) G 0 0 14 [.ref 112, .int x1, .int x2] [] μ') 
    (k1 : (z0 = (0 : Int32)) → φ (-1) μ) :
    J l mX12_road (jZ0 3 G (pI φ)) G 0 0 5 [.ref 112, .int x1, .int x2] [.int z0] μ := by
  refine j_if_ne 10 dX12_road_5 rfl (by decide) (fun c0 => ?_) (fun c0 => ?_)
  · skip
    refine j_aload_n dX12_road_10 rfl rfl ?_
    refine j_cV (as := []) (rest := []) dX12_road_11 rfl vw_X12_430 (hG 112 (17, 80) rfl) rfl ⟨Nat.le_of_ble_eq_true rfl, Nat.le_of_ble_eq_true rfl⟩ rfl rfl (fun _ _ => Nat.le_of_ble_eq_true rfl) (e0 c0) (fun r μ' hr => ?_)
    obtain ⟨rfl, hr⟩ := hr
    exact k0 c0 μ' hr
  · skip
    refine j_iconst (-1) dX12_road_8 rfl (by decide) ?_
    exact j_iret dX12_road_9 rfl (k1 c0)
theorem b_X12_road_14 {l : Launch} {G : jG} {μ : jM} {φ : Int32 → jM → Prop} {x1 x2 : Int32} {ψ3 : Int32 → jM → Prop} {ψ4 : Int32 → jM → Prop} {ψ6 : Int32 → jM → Prop} (hG : gMM G) (hP : gNN μ) 
    (o0 : (x2 = (0 : Int32)) → vp_in ((12 * (μ.1 112 18)) + x1) 24) 
    (k0 : (x2 = (0 : Int32)) → φ (μ.1 124 (Int32.toNatClampNeg ((12 * (μ.1 112 18)) + x1))) μ) 
    (o1 : (¬ x2 = (0 : Int32)) → (x2 = (1 : Int32)) → vp_in ((12 * (μ.1 112 18)) + x1) 24) 
    (k1 : (¬ x2 = (0 : Int32)) → (x2 = (1 : Int32)) → φ (μ.1 125 (Int32.toNatClampNeg ((12 * (μ.1 112 18)) + x1))) μ) 
    (o2 : (¬ x2 = (0 : Int32)) → (¬ x2 = (1 : Int32)) → (x2 = (2 : Int32)) → vp_in ((12 * (μ.1 112 18)) + x1) 24) 
    (k2 : (¬ x2 = (0 : Int32)) → (¬ x2 = (1 : Int32)) → (x2 = (2 : Int32)) → φ (μ.1 126 (Int32.toNatClampNeg ((12 * (μ.1 112 18)) + x1))) μ) 
    (e3 : (¬ x2 = (0 : Int32)) → (¬ x2 = (1 : Int32)) → (¬ x2 = (2 : Int32)) → (x2 = (3 : Int32)) → jC0 l mX12_overField 0 G [.ref 112, .int x1] μ (pI ψ3)) 
    (k3 : (¬ x2 = (0 : Int32)) → (¬ x2 = (1 : Int32)) → (¬ x2 = (2 : Int32)) → (x2 = (3 : Int32)) → ∀ v μ', ψ3 v μ' → J l mX12_road (jZ0 3 G (pI φ)) G 0 0 114 [.null, .null, .null] [.int v] μ') 
    (e4 : (¬ x2 = (0 : Int32)) → (¬ x2 = (1 : Int32)) → (¬ x2 = (2 : Int32)) → (¬ x2 = (3 : Int32)) → (x2 = (4 : Int32)) → jC0 l mX12_hasGate 0 G [.ref 112, .int x1] μ (pI ψ4)) 
    (k4 : (¬ x2 = (0 : Int32)) → (¬ x2 = (1 : Int32)) → (¬ x2 = (2 : Int32)) → (¬ x2 = (3 : Int32)) → (x2 = (4 : Int32)) → ∀ v μ', ψ4 v μ' → J l mX12_road (jZ0 3 G (pI φ)) G 0 0 128 [.null, .null, .null] [.int v] μ') 
    (o3 : (¬ x2 = (0 : Int32)) → (¬ x2 = (1 : Int32)) → (¬ x2 = (2 : Int32)) → (¬ x2 = (3 : Int32)) → (¬ x2 = (4 : Int32)) → (x2 = (5 : Int32)) → vp_in x1 68) 
    (k5 : (¬ x2 = (0 : Int32)) → (¬ x2 = (1 : Int32)) → (¬ x2 = (2 : Int32)) → (¬ x2 = (3 : Int32)) → (¬ x2 = (4 : Int32)) → (x2 = (5 : Int32)) → φ (μ.1 152 (Int32.toNatClampNeg x1)) μ) 
    (e6 : (¬ x2 = (0 : Int32)) → (¬ x2 = (1 : Int32)) → (¬ x2 = (2 : Int32)) → (¬ x2 = (3 : Int32)) → (¬ x2 = (4 : Int32)) → (¬ x2 = (5 : Int32)) → (x2 = (6 : Int32)) → jC0 l mX12_isDown 2 G [.ref 112, .int x1] μ (pI ψ6)) 
    (k6 : (¬ x2 = (0 : Int32)) → (¬ x2 = (1 : Int32)) → (¬ x2 = (2 : Int32)) → (¬ x2 = (3 : Int32)) → (¬ x2 = (4 : Int32)) → (¬ x2 = (5 : Int32)) → (x2 = (6 : Int32)) → ∀ v μ', ψ6 v μ' → J l mX12_road (jZ0 3 G (pI φ)) G 0 0 149 [.null, .null, .null] [.int v] μ') 
    (o4 : (¬ x2 = (0 : Int32)) → (¬ x2 = (1 : Int32)) → (¬ x2 = (2 : Int32)) → (¬ x2 = (3 : Int32)) → (¬ x2 = (4 : Int32)) → (¬ x2 = (5 : Int32)) → (¬ x2 = (6 : Int32)) → (x2 = (7 : Int32)) → vp_in ((12 * (x2 - 6)) + x1) 68) 
    (k7 : (¬ x2 = (0 : Int32)) → (¬ x2 = (1 : Int32)) → (¬ x2 = (2 : Int32)) → (¬ x2 = (3 : Int32)) → (¬ x2 = (4 : Int32)) → (¬ x2 = (5 : Int32)) → (¬ x2 = (6 : Int32)) → (x2 = (7 : Int32)) → φ (μ.1 152 (Int32.toNatClampNeg ((12 * (x2 - 6)) + x1))) μ) 
    (o5 : (¬ x2 = (0 : Int32)) → (¬ x2 = (1 : Int32)) → (¬ x2 = (2 : Int32)) → (¬ x2 = (3 : Int32)) → (¬ x2 = (4 : Int32)) → (¬ x2 = (5 : Int32)) → (¬ x2 = (6 : Int32)) → (¬ x2 = (7 : Int32)) → (x2 = (8 : Int32)) → vp_in ((12 * (x2 - 6)) + x1) 68) 
    (k8 : (¬ x2 = (0 : Int32)) → (¬ x2 = (1 : Int32)) → (¬ x2 = (2 : Int32)) → (¬ x2 = (3 : Int32)) → (¬ x2 = (4 : Int32)) → (¬ x2 = (5 : Int32)) → (¬ x2 = (6 : Int32)) → (¬ x2 = (7 : Int32)) → (x2 = (8 : Int32)) → φ (μ.1 152 (Int32.toNatClampNeg ((12 * (x2 - 6)) + x1))) μ) 
    (k9 : (¬ x2 = (0 : Int32)) → (¬ x2 = (1 : Int32)) → (¬ x2 = (2 : Int32)) → (¬ x2 = (3 : Int32)) → (¬ x2 = (4 : Int32)) → (¬ x2 = (5 : Int32)) → (¬ x2 = (6 : Int32)) → (¬ x2 = (7 : Int32)) → (¬ x2 = (8 : Int32)) → φ (-1) μ) :
    J l mX12_road (jZ0 3 G (pI φ)) G 0 0 14 [.ref 112, .int x1, .int x2] [] μ := by
  refine j_iload_n dX12_road_14 rfl rfl ?_
  by_cases c0 : x2 = (0 : Int32)
  · skip
    refine j_tableIn (off := 49) 64 dX12_road_15 (sw_1 c0 (by decide)) (sw_2 c0 (by decide)) (sw_3 c0 (by decide)) (by decide) ?_
    refine j_aload_n dX12_road_64 rfl rfl ?_
    refine j_getR (ci := 12) (N := 80) (f := 25) (T := TX12) 124 dX12_road_65 rfl (hG 112 (17, 80) rfl) rfl (by decide) fl_X12_52 rfl (hP 112 25 124 rfl) ?_
    refine j_bipush 12 dX12_road_68 rfl (by decide) ?_
    refine j_aload_n dX12_road_70 rfl rfl ?_
    refine j_getI (ci := 12) (N := 80) (f := 18) (T := TX12) dX12_road_71 rfl (hG 112 (17, 80) rfl) rfl (by decide) fl_X12_263 rfl ?_
    refine j_imul dX12_road_74 rfl ?_
    refine j_iload_n dX12_road_75 rfl rfl ?_
    refine j_iadd dX12_road_76 rfl ?_
    refine j_iald' (j := (Int32.toNatClampNeg ((12 * (μ.1 112 18)) + x1))) dX12_road_77 rfl (hG 124 (0, 24) rfl) (o0 c0) rfl ?_
    exact j_iret dX12_road_78 rfl (k0 c0)
  by_cases c1 : x2 = (1 : Int32)
  · skip
    refine j_tableIn (off := 64) 79 dX12_road_15 (sw_1 c1 (by decide)) (sw_2 c1 (by decide)) (sw_3 c1 (by decide)) (by decide) ?_
    refine j_aload_n dX12_road_79 rfl rfl ?_
    refine j_getR (ci := 12) (N := 80) (f := 26) (T := TX12) 125 dX12_road_80 rfl (hG 112 (17, 80) rfl) rfl (by decide) fl_X12_55 rfl (hP 112 26 125 rfl) ?_
    refine j_bipush 12 dX12_road_83 rfl (by decide) ?_
    refine j_aload_n dX12_road_85 rfl rfl ?_
    refine j_getI (ci := 12) (N := 80) (f := 18) (T := TX12) dX12_road_86 rfl (hG 112 (17, 80) rfl) rfl (by decide) fl_X12_263 rfl ?_
    refine j_imul dX12_road_89 rfl ?_
    refine j_iload_n dX12_road_90 rfl rfl ?_
    refine j_iadd dX12_road_91 rfl ?_
    refine j_iald' (j := (Int32.toNatClampNeg ((12 * (μ.1 112 18)) + x1))) dX12_road_92 rfl (hG 125 (0, 24) rfl) (o1 c0 c1) rfl ?_
    exact j_iret dX12_road_93 rfl (k1 c0 c1)
  by_cases c2 : x2 = (2 : Int32)
  · skip
    refine j_tableIn (off := 79) 94 dX12_road_15 (sw_1 c2 (by decide)) (sw_2 c2 (by decide)) (sw_3 c2 (by decide)) (by decide) ?_
    refine j_aload_n dX12_road_94 rfl rfl ?_
    refine j_getR (ci := 12) (N := 80) (f := 27) (T := TX12) 126 dX12_road_95 rfl (hG 112 (17, 80) rfl) rfl (by decide) fl_X12_58 rfl (hP 112 27 126 rfl) ?_
    refine j_bipush 12 dX12_road_98 rfl (by decide) ?_
    refine j_aload_n dX12_road_100 rfl rfl ?_
    refine j_getI (ci := 12) (N := 80) (f := 18) (T := TX12) dX12_road_101 rfl (hG 112 (17, 80) rfl) rfl (by decide) fl_X12_263 rfl ?_
    refine j_imul dX12_road_104 rfl ?_
    refine j_iload_n dX12_road_105 rfl rfl ?_
    refine j_iadd dX12_road_106 rfl ?_
    refine j_iald' (j := (Int32.toNatClampNeg ((12 * (μ.1 112 18)) + x1))) dX12_road_107 rfl (hG 126 (0, 24) rfl) (o2 c0 c1 c2) rfl ?_
    exact j_iret dX12_road_108 rfl (k2 c0 c1 c2)
  by_cases c3 : x2 = (3 : Int32)
  · skip
    refine j_tableIn (off := 94) 109 dX12_road_15 (sw_1 c3 (by decide)) (sw_2 c3 (by decide)) (sw_3 c3 (by decide)) (by decide) ?_
    refine j_aload_n dX12_road_109 rfl rfl ?_
    refine j_iload_n dX12_road_110 rfl rfl ?_
    refine j_cV (as := [.int x1]) (rest := []) dX12_road_111 rfl vw_X12_391 (hG 112 (17, 80) rfl) rfl ⟨Nat.le_of_ble_eq_true rfl, Nat.le_of_ble_eq_true rfl⟩ rfl rfl (fun _ _ => Nat.le_of_ble_eq_true rfl) (e3 c0 c1 c2 c3) (fun r μ' hr => ?_)
    obtain ⟨v, rfl, hr⟩ := hr
    refine j_forget (ls' := [.null, .null, .null]) ⟨Or.inl rfl, Or.inl rfl, Or.inl rfl, trivial⟩ ?_
    exact k3 c0 c1 c2 c3 v μ' hr
  by_cases c4 : x2 = (4 : Int32)
  · skip
    refine j_tableIn (off := 108) 123 dX12_road_15 (sw_1 c4 (by decide)) (sw_2 c4 (by decide)) (sw_3 c4 (by decide)) (by decide) ?_
    refine j_aload_n dX12_road_123 rfl rfl ?_
    refine j_iload_n dX12_road_124 rfl rfl ?_
    refine j_cV (as := [.int x1]) (rest := []) dX12_road_125 rfl vw_X12_385 (hG 112 (17, 80) rfl) rfl ⟨Nat.le_of_ble_eq_true rfl, Nat.le_of_ble_eq_true rfl⟩ rfl rfl (fun _ _ => Nat.le_of_ble_eq_true rfl) (e4 c0 c1 c2 c3 c4) (fun r μ' hr => ?_)
    obtain ⟨v, rfl, hr⟩ := hr
    refine j_forget (ls' := [.null, .null, .null]) ⟨Or.inl rfl, Or.inl rfl, Or.inl rfl, trivial⟩ ?_
    exact k4 c0 c1 c2 c3 c4 v μ' hr
  by_cases c5 : x2 = (5 : Int32)
  · skip
    refine j_tableIn (off := 122) 137 dX12_road_15 (sw_1 c5 (by decide)) (sw_2 c5 (by decide)) (sw_3 c5 (by decide)) (by decide) ?_
    refine j_aload_n dX12_road_137 rfl rfl ?_
    refine j_getR (ci := 12) (N := 80) (f := 57) (T := TX12) 152 dX12_road_138 rfl (hG 112 (17, 80) rfl) rfl (by decide) fl_X12_137 rfl (hP 112 57 152 rfl) ?_
    refine j_iload_n dX12_road_141 rfl rfl ?_
    refine j_iald' (j := (Int32.toNatClampNeg x1)) dX12_road_142 rfl (hG 152 (0, 68) rfl) (o3 c0 c1 c2 c3 c4 c5) rfl ?_
    exact j_iret dX12_road_143 rfl (k5 c0 c1 c2 c3 c4 c5)
  by_cases c6 : x2 = (6 : Int32)
  · skip
    refine j_tableIn (off := 129) 144 dX12_road_15 (sw_1 c6 (by decide)) (sw_2 c6 (by decide)) (sw_3 c6 (by decide)) (by decide) ?_
    refine j_aload_n dX12_road_144 rfl rfl ?_
    refine j_iload_n dX12_road_145 rfl rfl ?_
    refine j_cV (as := [.int x1]) (rest := []) dX12_road_146 rfl vw_X12_394 (hG 112 (17, 80) rfl) rfl ⟨Nat.le_of_ble_eq_true rfl, Nat.le_of_ble_eq_true rfl⟩ rfl rfl (fun _ _ => Nat.le_of_ble_eq_true rfl) (e6 c0 c1 c2 c3 c4 c5 c6) (fun r μ' hr => ?_)
    obtain ⟨v, rfl, hr⟩ := hr
    refine j_forget (ls' := [.null, .null, .null]) ⟨Or.inl rfl, Or.inl rfl, Or.inl rfl, trivial⟩ ?_
    exact k6 c0 c1 c2 c3 c4 c5 c6 v μ' hr
  by_cases c7 : x2 = (7 : Int32)
  · skip
    refine j_tableIn (off := 143) 158 dX12_road_15 (sw_1 c7 (by decide)) (sw_2 c7 (by decide)) (sw_3 c7 (by decide)) (by decide) ?_
    refine j_aload_n dX12_road_158 rfl rfl ?_
    refine j_getR (ci := 12) (N := 80) (f := 57) (T := TX12) 152 dX12_road_159 rfl (hG 112 (17, 80) rfl) rfl (by decide) fl_X12_137 rfl (hP 112 57 152 rfl) ?_
    refine j_bipush 12 dX12_road_162 rfl (by decide) ?_
    refine j_iload_n dX12_road_164 rfl rfl ?_
    refine j_bipush 6 dX12_road_165 rfl (by decide) ?_
    refine j_isub dX12_road_167 rfl ?_
    refine j_imul dX12_road_168 rfl ?_
    refine j_iload_n dX12_road_169 rfl rfl ?_
    refine j_iadd dX12_road_170 rfl ?_
    refine j_iald' (j := (Int32.toNatClampNeg ((12 * (x2 - 6)) + x1))) dX12_road_171 rfl (hG 152 (0, 68) rfl) (o4 c0 c1 c2 c3 c4 c5 c6 c7) rfl ?_
    exact j_iret dX12_road_172 rfl (k7 c0 c1 c2 c3 c4 c5 c6 c7)
  by_cases c8 : x2 = (8 : Int32)
  · skip
    refine j_tableIn (off := 143) 158 dX12_road_15 (sw_1 c8 (by decide)) (sw_2 c8 (by decide)) (sw_3 c8 (by decide)) (by decide) ?_
    refine j_aload_n dX12_road_158 rfl rfl ?_
    refine j_getR (ci := 12) (N := 80) (f := 57) (T := TX12) 152 dX12_road_159 rfl (hG 112 (17, 80) rfl) rfl (by decide) fl_X12_137 rfl (hP 112 57 152 rfl) ?_
    refine j_bipush 12 dX12_road_162 rfl (by decide) ?_
    refine j_iload_n dX12_road_164 rfl rfl ?_
    refine j_bipush 6 dX12_road_165 rfl (by decide) ?_
    refine j_isub dX12_road_167 rfl ?_
    refine j_imul dX12_road_168 rfl ?_
    refine j_iload_n dX12_road_169 rfl rfl ?_
    refine j_iadd dX12_road_170 rfl ?_
    refine j_iald' (j := (Int32.toNatClampNeg ((12 * (x2 - 6)) + x1))) dX12_road_171 rfl (hG 152 (0, 68) rfl) (o5 c0 c1 c2 c3 c4 c5 c6 c7 c8) rfl ?_
    exact j_iret dX12_road_172 rfl (k8 c0 c1 c2 c3 c4 c5 c6 c7 c8)
  refine j_tableOut 173 dX12_road_15 (sw_o [0, 1, 2, 3, 4, 5, 6, 7, 8] (by decide) ⟨c0, c1, c2, c3, c4, c5, c6, c7, c8, trivial⟩) (by decide) ?_
  refine j_iconst (-1) dX12_road_173 rfl (by decide) ?_
  exact j_iret dX12_road_174 rfl (k9 c0 c1 c2 c3 c4 c5 c6 c7 c8)
theorem b_X12_road_114 {l : Launch} {G : jG} {μ : jM} {φ : Int32 → jM → Prop} {z0 : Int32} (hG : gMM G) (hP : gNN μ) 
    (k0 : (z0 = (0 : Int32)) → φ 0 μ) 
    (k1 : (¬ (z0 = (0 : Int32))) → φ 1 μ) :
    J l mX12_road (jZ0 3 G (pI φ)) G 0 0 114 [.null, .null, .null] [.int z0] μ := by
  refine j_if_eq 121 dX12_road_114 rfl (by decide) (fun c0 => ?_) (fun c0 => ?_)
  · skip
    refine j_iconst 0 dX12_road_121 rfl (by decide) ?_
    exact j_iret dX12_road_122 rfl (k0 c0)
  · skip
    refine j_iconst 1 dX12_road_117 rfl (by decide) ?_
    refine j_goto 122 dX12_road_118 (by decide) ?_
    exact j_iret dX12_road_122 rfl (k1 c0)
theorem b_X12_road_128 {l : Launch} {G : jG} {μ : jM} {φ : Int32 → jM → Prop} {z0 : Int32} (hG : gMM G) (hP : gNN μ) 
    (k0 : (z0 = (0 : Int32)) → φ 0 μ) 
    (k1 : (¬ (z0 = (0 : Int32))) → φ 1 μ) :
    J l mX12_road (jZ0 3 G (pI φ)) G 0 0 128 [.null, .null, .null] [.int z0] μ := by
  refine j_if_eq 135 dX12_road_128 rfl (by decide) (fun c0 => ?_) (fun c0 => ?_)
  · skip
    refine j_iconst 0 dX12_road_135 rfl (by decide) ?_
    exact j_iret dX12_road_136 rfl (k0 c0)
  · skip
    refine j_iconst 1 dX12_road_131 rfl (by decide) ?_
    refine j_goto 136 dX12_road_132 (by decide) ?_
    exact j_iret dX12_road_136 rfl (k1 c0)
theorem b_X12_road_149 {l : Launch} {G : jG} {μ : jM} {φ : Int32 → jM → Prop} {z0 : Int32} (hG : gMM G) (hP : gNN μ) 
    (k0 : (z0 = (0 : Int32)) → φ 0 μ) 
    (k1 : (¬ (z0 = (0 : Int32))) → φ 1 μ) :
    J l mX12_road (jZ0 3 G (pI φ)) G 0 0 149 [.null, .null, .null] [.int z0] μ := by
  refine j_if_eq 156 dX12_road_149 rfl (by decide) (fun c0 => ?_) (fun c0 => ?_)
  · skip
    refine j_iconst 0 dX12_road_156 rfl (by decide) ?_
    exact j_iret dX12_road_157 rfl (k0 c0)
  · skip
    refine j_iconst 1 dX12_road_152 rfl (by decide) ?_
    refine j_goto 157 dX12_road_153 (by decide) ?_
    exact j_iret dX12_road_157 rfl (k1 c0)
theorem b_X12_ghost_0 {l : Launch} {G : jG} {μ : jM} {φ : Int32 → jM → Prop} {x1 x2 : Int32} {ψ0 : Int32 → jM → Prop} (hG : gMM G) (hP : gNN μ) 
    (e0 : jC0 l mX12_isGhost 1 G [.ref 112, .int x1] μ (pI ψ0)) 
    (k0 : ∀ v μ', ψ0 v μ' → J l mX12_ghost (jZ0 2 G (pI φ)) G 0 0 5 [.ref 112, .int x1, .int x2] [.int v] μ') :
    J l mX12_ghost (jZ0 2 G (pI φ)) G 0 0 0 [.ref 112, .int x1, .int x2] [] μ := by
  refine j_aload_n dX12_ghost_0 rfl rfl ?_
  refine j_iload_n dX12_ghost_1 rfl rfl ?_
  refine j_cV (as := [.int x1]) (rest := []) dX12_ghost_2 rfl vw_X12_433 (hG 112 (17, 80) rfl) rfl ⟨Nat.le_of_ble_eq_true rfl, Nat.le_of_ble_eq_true rfl⟩ rfl rfl (fun _ _ => Nat.le_of_ble_eq_true rfl) (e0 ) (fun r μ' hr => ?_)
  obtain ⟨v, rfl, hr⟩ := hr
  exact k0  v μ' hr
theorem b_X12_ghost_5 {l : Launch} {G : jG} {μ : jM} {φ : Int32 → jM → Prop} {x1 x2 z0 : Int32} {ψ0 : jM → Prop} (hG : gMM G) (hP : gNN μ) 
    (e0 : (¬ z0 = (0 : Int32)) → jC0 l mX12_copies 1 G [.ref 112] μ (pV ψ0)) 
    (k0 : (¬ z0 = (0 : Int32)) → ∀ μ', ψ0 μ' → J l mX12_ghost (jZ0 2 G (pI φ)) G 0 0 14 [.ref 112, .int x1, .int x2] [] μ') 
    (k1 : (z0 = (0 : Int32)) → φ (-1) μ) :
    J l mX12_ghost (jZ0 2 G (pI φ)) G 0 0 5 [.ref 112, .int x1, .int x2] [.int z0] μ := by
  refine j_if_ne 10 dX12_ghost_5 rfl (by decide) (fun c0 => ?_) (fun c0 => ?_)
  · skip
    refine j_aload_n dX12_ghost_10 rfl rfl ?_
    refine j_cV (as := []) (rest := []) dX12_ghost_11 rfl vw_X12_430 (hG 112 (17, 80) rfl) rfl ⟨Nat.le_of_ble_eq_true rfl, Nat.le_of_ble_eq_true rfl⟩ rfl rfl (fun _ _ => Nat.le_of_ble_eq_true rfl) (e0 c0) (fun r μ' hr => ?_)
    obtain ⟨rfl, hr⟩ := hr
    exact k0 c0 μ' hr
  · skip
    refine j_iconst (-1) dX12_ghost_8 rfl (by decide) ?_
    exact j_iret dX12_ghost_9 rfl (k1 c0)
theorem b_X12_ghost_14 {l : Launch} {G : jG} {μ : jM} {φ : Int32 → jM → Prop} {x1 x2 : Int32} {ψ3 : Int32 → jM → Prop} (hG : gMM G) (hP : gNN μ) 
    (o0 : (x2 = (0 : Int32)) → vp_in ((7 * (μ.1 112 18)) + x1) 14) 
    (k0 : (x2 = (0 : Int32)) → φ (μ.1 132 (Int32.toNatClampNeg ((7 * (μ.1 112 18)) + x1))) μ) 
    (o1 : (¬ x2 = (0 : Int32)) → (x2 = (1 : Int32)) → vp_in ((7 * (μ.1 112 18)) + x1) 14) 
    (k1 : (¬ x2 = (0 : Int32)) → (x2 = (1 : Int32)) → φ (μ.1 133 (Int32.toNatClampNeg ((7 * (μ.1 112 18)) + x1))) μ) 
    (o2 : (¬ x2 = (0 : Int32)) → (¬ x2 = (1 : Int32)) → (x2 = (2 : Int32)) → vp_in ((7 * (μ.1 112 18)) + x1) 14) 
    (k2 : (¬ x2 = (0 : Int32)) → (¬ x2 = (1 : Int32)) → (x2 = (2 : Int32)) → φ (μ.1 134 (Int32.toNatClampNeg ((7 * (μ.1 112 18)) + x1))) μ) 
    (e3 : (¬ x2 = (0 : Int32)) → (¬ x2 = (1 : Int32)) → (¬ x2 = (2 : Int32)) → (x2 = (3 : Int32)) → jC0 l mX12_isHis 0 G [.ref 112, .int x1] μ (pI ψ3)) 
    (k3 : (¬ x2 = (0 : Int32)) → (¬ x2 = (1 : Int32)) → (¬ x2 = (2 : Int32)) → (x2 = (3 : Int32)) → ∀ v μ', ψ3 v μ' → J l mX12_ghost (jZ0 2 G (pI φ)) G 0 0 110 [.null, .null, .null] [.int v] μ') 
    (o3 : (¬ x2 = (0 : Int32)) → (¬ x2 = (1 : Int32)) → (¬ x2 = (2 : Int32)) → (¬ x2 = (3 : Int32)) → (x2 = (4 : Int32)) → vp_in ((36 + (7 * (x2 - 4))) + x1) 68) 
    (k4 : (¬ x2 = (0 : Int32)) → (¬ x2 = (1 : Int32)) → (¬ x2 = (2 : Int32)) → (¬ x2 = (3 : Int32)) → (x2 = (4 : Int32)) → φ (μ.1 152 (Int32.toNatClampNeg ((36 + (7 * (x2 - 4))) + x1))) μ) 
    (o4 : (¬ x2 = (0 : Int32)) → (¬ x2 = (1 : Int32)) → (¬ x2 = (2 : Int32)) → (¬ x2 = (3 : Int32)) → (¬ x2 = (4 : Int32)) → (x2 = (5 : Int32)) → vp_in ((36 + (7 * (x2 - 4))) + x1) 68) 
    (k5 : (¬ x2 = (0 : Int32)) → (¬ x2 = (1 : Int32)) → (¬ x2 = (2 : Int32)) → (¬ x2 = (3 : Int32)) → (¬ x2 = (4 : Int32)) → (x2 = (5 : Int32)) → φ (μ.1 152 (Int32.toNatClampNeg ((36 + (7 * (x2 - 4))) + x1))) μ) 
    (o5 : (¬ x2 = (0 : Int32)) → (¬ x2 = (1 : Int32)) → (¬ x2 = (2 : Int32)) → (¬ x2 = (3 : Int32)) → (¬ x2 = (4 : Int32)) → (¬ x2 = (5 : Int32)) → (x2 = (6 : Int32)) → vp_in ((36 + (7 * (x2 - 4))) + x1) 68) 
    (k6 : (¬ x2 = (0 : Int32)) → (¬ x2 = (1 : Int32)) → (¬ x2 = (2 : Int32)) → (¬ x2 = (3 : Int32)) → (¬ x2 = (4 : Int32)) → (¬ x2 = (5 : Int32)) → (x2 = (6 : Int32)) → φ (μ.1 152 (Int32.toNatClampNeg ((36 + (7 * (x2 - 4))) + x1))) μ) 
    (o6 : (¬ x2 = (0 : Int32)) → (¬ x2 = (1 : Int32)) → (¬ x2 = (2 : Int32)) → (¬ x2 = (3 : Int32)) → (¬ x2 = (4 : Int32)) → (¬ x2 = (5 : Int32)) → (¬ x2 = (6 : Int32)) → (x2 = (7 : Int32)) → vp_in ((36 + (7 * (x2 - 4))) + x1) 68) 
    (k7 : (¬ x2 = (0 : Int32)) → (¬ x2 = (1 : Int32)) → (¬ x2 = (2 : Int32)) → (¬ x2 = (3 : Int32)) → (¬ x2 = (4 : Int32)) → (¬ x2 = (5 : Int32)) → (¬ x2 = (6 : Int32)) → (x2 = (7 : Int32)) → φ (μ.1 152 (Int32.toNatClampNeg ((36 + (7 * (x2 - 4))) + x1))) μ) 
    (k8 : (¬ x2 = (0 : Int32)) → (¬ x2 = (1 : Int32)) → (¬ x2 = (2 : Int32)) → (¬ x2 = (3 : Int32)) → (¬ x2 = (4 : Int32)) → (¬ x2 = (5 : Int32)) → (¬ x2 = (6 : Int32)) → (¬ x2 = (7 : Int32)) → φ (-1) μ) :
    J l mX12_ghost (jZ0 2 G (pI φ)) G 0 0 14 [.ref 112, .int x1, .int x2] [] μ := by
  refine j_iload_n dX12_ghost_14 rfl rfl ?_
  by_cases c0 : x2 = (0 : Int32)
  · skip
    refine j_tableIn (off := 45) 60 dX12_ghost_15 (sw_1 c0 (by decide)) (sw_2 c0 (by decide)) (sw_3 c0 (by decide)) (by decide) ?_
    refine j_aload_n dX12_ghost_60 rfl rfl ?_
    refine j_getR (ci := 12) (N := 80) (f := 33) (T := TX12) 132 dX12_ghost_61 rfl (hG 112 (17, 80) rfl) rfl (by decide) fl_X12_77 rfl (hP 112 33 132 rfl) ?_
    refine j_bipush 7 dX12_ghost_64 rfl (by decide) ?_
    refine j_aload_n dX12_ghost_66 rfl rfl ?_
    refine j_getI (ci := 12) (N := 80) (f := 18) (T := TX12) dX12_ghost_67 rfl (hG 112 (17, 80) rfl) rfl (by decide) fl_X12_263 rfl ?_
    refine j_imul dX12_ghost_70 rfl ?_
    refine j_iload_n dX12_ghost_71 rfl rfl ?_
    refine j_iadd dX12_ghost_72 rfl ?_
    refine j_iald' (j := (Int32.toNatClampNeg ((7 * (μ.1 112 18)) + x1))) dX12_ghost_73 rfl (hG 132 (0, 14) rfl) (o0 c0) rfl ?_
    exact j_iret dX12_ghost_74 rfl (k0 c0)
  by_cases c1 : x2 = (1 : Int32)
  · skip
    refine j_tableIn (off := 60) 75 dX12_ghost_15 (sw_1 c1 (by decide)) (sw_2 c1 (by decide)) (sw_3 c1 (by decide)) (by decide) ?_
    refine j_aload_n dX12_ghost_75 rfl rfl ?_
    refine j_getR (ci := 12) (N := 80) (f := 34) (T := TX12) 133 dX12_ghost_76 rfl (hG 112 (17, 80) rfl) rfl (by decide) fl_X12_80 rfl (hP 112 34 133 rfl) ?_
    refine j_bipush 7 dX12_ghost_79 rfl (by decide) ?_
    refine j_aload_n dX12_ghost_81 rfl rfl ?_
    refine j_getI (ci := 12) (N := 80) (f := 18) (T := TX12) dX12_ghost_82 rfl (hG 112 (17, 80) rfl) rfl (by decide) fl_X12_263 rfl ?_
    refine j_imul dX12_ghost_85 rfl ?_
    refine j_iload_n dX12_ghost_86 rfl rfl ?_
    refine j_iadd dX12_ghost_87 rfl ?_
    refine j_iald' (j := (Int32.toNatClampNeg ((7 * (μ.1 112 18)) + x1))) dX12_ghost_88 rfl (hG 133 (0, 14) rfl) (o1 c0 c1) rfl ?_
    exact j_iret dX12_ghost_89 rfl (k1 c0 c1)
  by_cases c2 : x2 = (2 : Int32)
  · skip
    refine j_tableIn (off := 75) 90 dX12_ghost_15 (sw_1 c2 (by decide)) (sw_2 c2 (by decide)) (sw_3 c2 (by decide)) (by decide) ?_
    refine j_aload_n dX12_ghost_90 rfl rfl ?_
    refine j_getR (ci := 12) (N := 80) (f := 35) (T := TX12) 134 dX12_ghost_91 rfl (hG 112 (17, 80) rfl) rfl (by decide) fl_X12_83 rfl (hP 112 35 134 rfl) ?_
    refine j_bipush 7 dX12_ghost_94 rfl (by decide) ?_
    refine j_aload_n dX12_ghost_96 rfl rfl ?_
    refine j_getI (ci := 12) (N := 80) (f := 18) (T := TX12) dX12_ghost_97 rfl (hG 112 (17, 80) rfl) rfl (by decide) fl_X12_263 rfl ?_
    refine j_imul dX12_ghost_100 rfl ?_
    refine j_iload_n dX12_ghost_101 rfl rfl ?_
    refine j_iadd dX12_ghost_102 rfl ?_
    refine j_iald' (j := (Int32.toNatClampNeg ((7 * (μ.1 112 18)) + x1))) dX12_ghost_103 rfl (hG 134 (0, 14) rfl) (o2 c0 c1 c2) rfl ?_
    exact j_iret dX12_ghost_104 rfl (k2 c0 c1 c2)
  by_cases c3 : x2 = (3 : Int32)
  · skip
    refine j_tableIn (off := 90) 105 dX12_ghost_15 (sw_1 c3 (by decide)) (sw_2 c3 (by decide)) (sw_3 c3 (by decide)) (by decide) ?_
    refine j_aload_n dX12_ghost_105 rfl rfl ?_
    refine j_iload_n dX12_ghost_106 rfl rfl ?_
    refine j_cV (as := [.int x1]) (rest := []) dX12_ghost_107 rfl vw_X12_415 (hG 112 (17, 80) rfl) rfl ⟨Nat.le_of_ble_eq_true rfl, Nat.le_of_ble_eq_true rfl⟩ rfl rfl (fun _ _ => Nat.le_of_ble_eq_true rfl) (e3 c0 c1 c2 c3) (fun r μ' hr => ?_)
    obtain ⟨v, rfl, hr⟩ := hr
    refine j_forget (ls' := [.null, .null, .null]) ⟨Or.inl rfl, Or.inl rfl, Or.inl rfl, trivial⟩ ?_
    exact k3 c0 c1 c2 c3 v μ' hr
  by_cases c4 : x2 = (4 : Int32)
  · skip
    refine j_tableIn (off := 104) 119 dX12_ghost_15 (sw_1 c4 (by decide)) (sw_2 c4 (by decide)) (sw_3 c4 (by decide)) (by decide) ?_
    refine j_aload_n dX12_ghost_119 rfl rfl ?_
    refine j_getR (ci := 12) (N := 80) (f := 57) (T := TX12) 152 dX12_ghost_120 rfl (hG 112 (17, 80) rfl) rfl (by decide) fl_X12_137 rfl (hP 112 57 152 rfl) ?_
    refine j_bipush 36 dX12_ghost_123 rfl (by decide) ?_
    refine j_bipush 7 dX12_ghost_125 rfl (by decide) ?_
    refine j_iload_n dX12_ghost_127 rfl rfl ?_
    refine j_iconst 4 dX12_ghost_128 rfl (by decide) ?_
    refine j_isub dX12_ghost_129 rfl ?_
    refine j_imul dX12_ghost_130 rfl ?_
    refine j_iadd dX12_ghost_131 rfl ?_
    refine j_iload_n dX12_ghost_132 rfl rfl ?_
    refine j_iadd dX12_ghost_133 rfl ?_
    refine j_iald' (j := (Int32.toNatClampNeg ((36 + (7 * (x2 - 4))) + x1))) dX12_ghost_134 rfl (hG 152 (0, 68) rfl) (o3 c0 c1 c2 c3 c4) rfl ?_
    exact j_iret dX12_ghost_135 rfl (k4 c0 c1 c2 c3 c4)
  by_cases c5 : x2 = (5 : Int32)
  · skip
    refine j_tableIn (off := 104) 119 dX12_ghost_15 (sw_1 c5 (by decide)) (sw_2 c5 (by decide)) (sw_3 c5 (by decide)) (by decide) ?_
    refine j_aload_n dX12_ghost_119 rfl rfl ?_
    refine j_getR (ci := 12) (N := 80) (f := 57) (T := TX12) 152 dX12_ghost_120 rfl (hG 112 (17, 80) rfl) rfl (by decide) fl_X12_137 rfl (hP 112 57 152 rfl) ?_
    refine j_bipush 36 dX12_ghost_123 rfl (by decide) ?_
    refine j_bipush 7 dX12_ghost_125 rfl (by decide) ?_
    refine j_iload_n dX12_ghost_127 rfl rfl ?_
    refine j_iconst 4 dX12_ghost_128 rfl (by decide) ?_
    refine j_isub dX12_ghost_129 rfl ?_
    refine j_imul dX12_ghost_130 rfl ?_
    refine j_iadd dX12_ghost_131 rfl ?_
    refine j_iload_n dX12_ghost_132 rfl rfl ?_
    refine j_iadd dX12_ghost_133 rfl ?_
    refine j_iald' (j := (Int32.toNatClampNeg ((36 + (7 * (x2 - 4))) + x1))) dX12_ghost_134 rfl (hG 152 (0, 68) rfl) (o4 c0 c1 c2 c3 c4 c5) rfl ?_
    exact j_iret dX12_ghost_135 rfl (k5 c0 c1 c2 c3 c4 c5)
  by_cases c6 : x2 = (6 : Int32)
  · skip
    refine j_tableIn (off := 104) 119 dX12_ghost_15 (sw_1 c6 (by decide)) (sw_2 c6 (by decide)) (sw_3 c6 (by decide)) (by decide) ?_
    refine j_aload_n dX12_ghost_119 rfl rfl ?_
    refine j_getR (ci := 12) (N := 80) (f := 57) (T := TX12) 152 dX12_ghost_120 rfl (hG 112 (17, 80) rfl) rfl (by decide) fl_X12_137 rfl (hP 112 57 152 rfl) ?_
    refine j_bipush 36 dX12_ghost_123 rfl (by decide) ?_
    refine j_bipush 7 dX12_ghost_125 rfl (by decide) ?_
    refine j_iload_n dX12_ghost_127 rfl rfl ?_
    refine j_iconst 4 dX12_ghost_128 rfl (by decide) ?_
    refine j_isub dX12_ghost_129 rfl ?_
    refine j_imul dX12_ghost_130 rfl ?_
    refine j_iadd dX12_ghost_131 rfl ?_
    refine j_iload_n dX12_ghost_132 rfl rfl ?_
    refine j_iadd dX12_ghost_133 rfl ?_
    refine j_iald' (j := (Int32.toNatClampNeg ((36 + (7 * (x2 - 4))) + x1))) dX12_ghost_134 rfl (hG 152 (0, 68) rfl) (o5 c0 c1 c2 c3 c4 c5 c6) rfl ?_
    exact j_iret dX12_ghost_135 rfl (k6 c0 c1 c2 c3 c4 c5 c6)
  by_cases c7 : x2 = (7 : Int32)
  · skip
    refine j_tableIn (off := 104) 119 dX12_ghost_15 (sw_1 c7 (by decide)) (sw_2 c7 (by decide)) (sw_3 c7 (by decide)) (by decide) ?_
    refine j_aload_n dX12_ghost_119 rfl rfl ?_
    refine j_getR (ci := 12) (N := 80) (f := 57) (T := TX12) 152 dX12_ghost_120 rfl (hG 112 (17, 80) rfl) rfl (by decide) fl_X12_137 rfl (hP 112 57 152 rfl) ?_
    refine j_bipush 36 dX12_ghost_123 rfl (by decide) ?_
    refine j_bipush 7 dX12_ghost_125 rfl (by decide) ?_
    refine j_iload_n dX12_ghost_127 rfl rfl ?_
    refine j_iconst 4 dX12_ghost_128 rfl (by decide) ?_
    refine j_isub dX12_ghost_129 rfl ?_
    refine j_imul dX12_ghost_130 rfl ?_
    refine j_iadd dX12_ghost_131 rfl ?_
    refine j_iload_n dX12_ghost_132 rfl rfl ?_
    refine j_iadd dX12_ghost_133 rfl ?_
    refine j_iald' (j := (Int32.toNatClampNeg ((36 + (7 * (x2 - 4))) + x1))) dX12_ghost_134 rfl (hG 152 (0, 68) rfl) (o6 c0 c1 c2 c3 c4 c5 c6 c7) rfl ?_
    exact j_iret dX12_ghost_135 rfl (k7 c0 c1 c2 c3 c4 c5 c6 c7)
  refine j_tableOut 136 dX12_ghost_15 (sw_o [0, 1, 2, 3, 4, 5, 6, 7] (by decide) ⟨c0, c1, c2, c3, c4, c5, c6, c7, trivial⟩) (by decide) ?_
  refine j_iconst (-1) dX12_ghost_136 rfl (by decide) ?_
  exact j_iret dX12_ghost_137 rfl (k8 c0 c1 c2 c3 c4 c5 c6 c7)
theorem b_X12_ghost_110 {l : Launch} {G : jG} {μ : jM} {φ : Int32 → jM → Prop} {z0 : Int32} (hG : gMM G) (hP : gNN μ) 
    (k0 : (z0 = (0 : Int32)) → φ 0 μ) 
    (k1 : (¬ (z0 = (0 : Int32))) → φ 1 μ) :
    J l mX12_ghost (jZ0 2 G (pI φ)) G 0 0 110 [.null, .null, .null] [.int z0] μ := by
  refine j_if_eq 117 dX12_ghost_110 rfl (by decide) (fun c0 => ?_) (fun c0 => ?_)
  · skip
    refine j_iconst 0 dX12_ghost_117 rfl (by decide) ?_
    exact j_iret dX12_ghost_118 rfl (k0 c0)
  · skip
    refine j_iconst 1 dX12_ghost_113 rfl (by decide) ?_
    refine j_goto 118 dX12_ghost_114 (by decide) ?_
    exact j_iret dX12_ghost_118 rfl (k1 c0)
theorem b_X12_cost_0 {l : Launch} {G : jG} {μ : jM} {φ : Int32 → jM → Prop} {x1 x2 : Int32} {ψ0 : Int32 → jM → Prop} (hG : gMM G) (hP : gNN μ) 
    (e0 : jC0 l mX12_isGhost 1 G [.ref 112, .int x1] μ (pI ψ0)) 
    (k0 : ∀ v μ', ψ0 v μ' → J l mX12_cost (jZ0 5 G (pI φ)) G 0 0 5 [.ref 112, .int x1, .int x2] [.int v] μ') :
    J l mX12_cost (jZ0 5 G (pI φ)) G 0 0 0 [.ref 112, .int x1, .int x2] [] μ := by
  refine j_aload_n dX12_cost_0 rfl rfl ?_
  refine j_iload_n dX12_cost_1 rfl rfl ?_
  refine j_cV (as := [.int x1]) (rest := []) dX12_cost_2 rfl vw_X12_433 (hG 112 (17, 80) rfl) rfl ⟨Nat.le_of_ble_eq_true rfl, Nat.le_of_ble_eq_true rfl⟩ rfl rfl (fun _ _ => Nat.le_of_ble_eq_true rfl) (e0 ) (fun r μ' hr => ?_)
  obtain ⟨v, rfl, hr⟩ := hr
  exact k0  v μ' hr
theorem b_X12_cost_5 {l : Launch} {G : jG} {μ : jM} {φ : Int32 → jM → Prop} {x1 x2 z0 : Int32} {ψ1 : Int32 → jM → Prop} (hG : gMM G) (hP : gNN μ) 
    (k0 : (z0 = (0 : Int32)) → φ (-1) μ) 
    (e1 : (¬ (z0 = (0 : Int32))) → jC0 l mX12_isRoad 1 G [.ref 112, .int x2] μ (pI ψ1)) 
    (k1 : (¬ (z0 = (0 : Int32))) → ∀ v μ', ψ1 v μ' → J l mX12_cost (jZ0 5 G (pI φ)) G 0 0 13 [.ref 112, .int x1, .int x2] [.int v] μ') :
    J l mX12_cost (jZ0 5 G (pI φ)) G 0 0 5 [.ref 112, .int x1, .int x2] [.int z0] μ := by
  refine j_if_eq 16 dX12_cost_5 rfl (by decide) (fun c0 => ?_) (fun c0 => ?_)
  · skip
    refine j_iconst (-1) dX12_cost_16 rfl (by decide) ?_
    exact j_iret dX12_cost_17 rfl (k0 c0)
  · skip
    refine j_aload_n dX12_cost_8 rfl rfl ?_
    refine j_iload_n dX12_cost_9 rfl rfl ?_
    refine j_cV (as := [.int x2]) (rest := []) dX12_cost_10 rfl vw_X12_427 (hG 112 (17, 80) rfl) rfl ⟨Nat.le_of_ble_eq_true rfl, Nat.le_of_ble_eq_true rfl⟩ rfl rfl (fun _ _ => Nat.le_of_ble_eq_true rfl) (e1 c0) (fun r μ' hr => ?_)
    obtain ⟨v, rfl, hr⟩ := hr
    exact k1 c0 v μ' hr
theorem b_X12_cost_13 {l : Launch} {G : jG} {μ : jM} {φ : Int32 → jM → Prop} {x1 x2 z0 : Int32} {ψ0 : jM → Prop} (hG : gMM G) (hP : gNN μ) 
    (e0 : (¬ z0 = (0 : Int32)) → jC0 l mX12_copies 1 G [.ref 112] μ (pV ψ0)) 
    (k0 : (¬ z0 = (0 : Int32)) → ∀ μ', ψ0 μ' → J l mX12_cost (jZ0 5 G (pI φ)) G 0 0 22 [.ref 112, .int x1, .int x2] [] μ') 
    (k1 : (z0 = (0 : Int32)) → φ (-1) μ) :
    J l mX12_cost (jZ0 5 G (pI φ)) G 0 0 13 [.ref 112, .int x1, .int x2] [.int z0] μ := by
  refine j_if_ne 18 dX12_cost_13 rfl (by decide) (fun c0 => ?_) (fun c0 => ?_)
  · skip
    refine j_aload_n dX12_cost_18 rfl rfl ?_
    refine j_cV (as := []) (rest := []) dX12_cost_19 rfl vw_X12_430 (hG 112 (17, 80) rfl) rfl ⟨Nat.le_of_ble_eq_true rfl, Nat.le_of_ble_eq_true rfl⟩ rfl rfl (fun _ _ => Nat.le_of_ble_eq_true rfl) (e0 c0) (fun r μ' hr => ?_)
    obtain ⟨rfl, hr⟩ := hr
    exact k0 c0 μ' hr
  · skip
    refine j_iconst (-1) dX12_cost_16 rfl (by decide) ?_
    exact j_iret dX12_cost_17 rfl (k1 c0)
theorem b_X12_cost_22 {l : Launch} {G : jG} {μ : jM} {φ : Int32 → jM → Prop} {x1 x2 : Int32} {ψ0 : Int32 → jM → Prop} (hG : gMM G) (hP : gNN μ) 
    (e0 : jC0 l mX12_costOf 4 G [.ref 112, .int x1, .int x2] μ (pI ψ0)) 
    (k0 : ∀ v μ', ψ0 v μ' → J l mX12_cost (jZ0 5 G (pI φ)) G 0 0 28 [.null, .null, .null] [.int v] μ') :
    J l mX12_cost (jZ0 5 G (pI φ)) G 0 0 22 [.ref 112, .int x1, .int x2] [] μ := by
  refine j_aload_n dX12_cost_22 rfl rfl ?_
  refine j_iload_n dX12_cost_23 rfl rfl ?_
  refine j_iload_n dX12_cost_24 rfl rfl ?_
  refine j_cV (as := [.int x1, .int x2]) (rest := []) dX12_cost_25 rfl vw_X12_397 (hG 112 (17, 80) rfl) rfl ⟨Nat.le_of_ble_eq_true rfl, Nat.le_of_ble_eq_true rfl⟩ rfl rfl (fun _ _ => Nat.le_of_ble_eq_true rfl) (e0 ) (fun r μ' hr => ?_)
  obtain ⟨v, rfl, hr⟩ := hr
  refine j_forget (ls' := [.null, .null, .null]) ⟨Or.inl rfl, Or.inl rfl, Or.inl rfl, trivial⟩ ?_
  exact k0  v μ' hr
theorem b_X12_cost_28 {l : Launch} {G : jG} {μ : jM} {φ : Int32 → jM → Prop} {z0 : Int32} (hG : gMM G) (hP : gNN μ) 
    (k0 : φ z0 μ) :
    J l mX12_cost (jZ0 5 G (pI φ)) G 0 0 28 [.null, .null, .null] [.int z0] μ := by
  exact j_iret dX12_cost_28 rfl (k0 )
theorem b_X12_paysByWay_0 {l : Launch} {G : jG} {μ : jM} {φ : Int32 → jM → Prop} {x1 : Int32} (hG : gMM G) (hP : gNN μ) 
    (o0 : vp_in ((7 * (μ.1 112 18)) + x1) 14) 
    (k0 : J l mX12_paysByWay (jZ0 0 G (pI φ)) G 0 0 20 [.ref 112, .null, .int (μ.1 133 (Int32.toNatClampNeg ((7 * (μ.1 112 18)) + x1))), .int 0, .int 0] [] μ) :
    J l mX12_paysByWay (jZ0 0 G (pI φ)) G 0 0 0 [.ref 112, .int x1, .null, .null, .null] [] μ := by
  refine j_aload_n dX12_paysByWay_0 rfl rfl ?_
  refine j_getR (ci := 12) (N := 80) (f := 34) (T := TX12) 133 dX12_paysByWay_1 rfl (hG 112 (17, 80) rfl) rfl (by decide) fl_X12_80 rfl (hP 112 34 133 rfl) ?_
  refine j_bipush 7 dX12_paysByWay_4 rfl (by decide) ?_
  refine j_aload_n dX12_paysByWay_6 rfl rfl ?_
  refine j_getI (ci := 12) (N := 80) (f := 18) (T := TX12) dX12_paysByWay_7 rfl (hG 112 (17, 80) rfl) rfl (by decide) fl_X12_263 rfl ?_
  refine j_imul dX12_paysByWay_10 rfl ?_
  refine j_iload_n dX12_paysByWay_11 rfl rfl ?_
  refine j_iadd dX12_paysByWay_12 rfl ?_
  refine j_iald' (j := (Int32.toNatClampNeg ((7 * (μ.1 112 18)) + x1))) dX12_paysByWay_13 rfl (hG 133 (0, 14) rfl) o0 rfl ?_
  refine j_istore_n (ls' := [.ref 112, .int x1, .int (μ.1 133 (Int32.toNatClampNeg ((7 * (μ.1 112 18)) + x1))), .null, .null]) dX12_paysByWay_14 rfl rfl (Nat.le_of_ble_eq_true rfl) rfl ?_
  refine j_iconst 0 dX12_paysByWay_15 rfl (by decide) ?_
  refine j_istore_n (ls' := [.ref 112, .int x1, .int (μ.1 133 (Int32.toNatClampNeg ((7 * (μ.1 112 18)) + x1))), .int 0, .null]) dX12_paysByWay_16 rfl rfl (Nat.le_of_ble_eq_true rfl) rfl ?_
  refine j_iconst 0 dX12_paysByWay_17 rfl (by decide) ?_
  refine j_istore (ls' := [.ref 112, .int x1, .int (μ.1 133 (Int32.toNatClampNeg ((7 * (μ.1 112 18)) + x1))), .int 0, .int 0]) dX12_paysByWay_18 rfl (Nat.le_of_ble_eq_true rfl) rfl ?_
  refine j_forget (ls' := [.ref 112, .null, .int (μ.1 133 (Int32.toNatClampNeg ((7 * (μ.1 112 18)) + x1))), .int 0, .int 0]) ⟨Or.inr rfl, Or.inl rfl, Or.inr rfl, Or.inr rfl, Or.inr rfl, trivial⟩ ?_
  exact k0 
theorem b_X12_paysByWay_20 {l : Launch} {G : jG} {μ : jM} {φ : Int32 → jM → Prop} {x2 x3 x4 : Int32} (hG : gMM G) (hP : gNN μ) 
    (k0 : ((μ.1 112 65) ≤ (x4 : Int32)) → (x2 ≤ (x3 : Int32)) → φ x2 μ) 
    (k1 : ((μ.1 112 65) ≤ (x4 : Int32)) → (¬ (x2 ≤ (x3 : Int32))) → φ x3 μ) 
    (o0 : (¬ ((μ.1 112 65) ≤ (x4 : Int32))) → vp_in x4 8) 
    (o1 : (¬ ((μ.1 112 65) ≤ (x4 : Int32))) → vp_in (μ.1 156 (Int32.toNatClampNeg x4)) 12) 
    (k2 : (¬ ((μ.1 112 65) ≤ (x4 : Int32))) → J l mX12_paysByWay (jZ0 0 G (pI φ)) G 0 0 20 [.ref 112, .null, .int x2, .int (x3 + (μ.1 155 (Int32.toNatClampNeg (μ.1 156 (Int32.toNatClampNeg x4))))), .int (x4 + 1)] [] μ) :
    J l mX12_paysByWay (jZ0 0 G (pI φ)) G 0 0 20 [.ref 112, .null, .int x2, .int x3, .int x4] [] μ := by
  refine j_iload dX12_paysByWay_20 rfl rfl ?_
  refine j_aload_n dX12_paysByWay_22 rfl rfl ?_
  refine j_getI (ci := 12) (N := 80) (f := 65) (T := TX12) dX12_paysByWay_23 rfl (hG 112 (17, 80) rfl) rfl (by decide) fl_X12_409 rfl ?_
  refine j_icmp_ge 50 dX12_paysByWay_26 rfl (by decide) (fun c0 => ?_) (fun c0 => ?_)
  · skip
    refine j_iload_n dX12_paysByWay_50 rfl rfl ?_
    refine j_iload_n dX12_paysByWay_51 rfl rfl ?_
    refine j_icmp_ge 59 dX12_paysByWay_52 rfl (by decide) (fun c1 => ?_) (fun c1 => ?_)
    · skip
      refine j_iload_n dX12_paysByWay_59 rfl rfl ?_
      exact j_iret dX12_paysByWay_60 rfl (k0 c0 c1)
    · skip
      refine j_iload_n dX12_paysByWay_55 rfl rfl ?_
      refine j_goto 60 dX12_paysByWay_56 (by decide) ?_
      exact j_iret dX12_paysByWay_60 rfl (k1 c0 c1)
  · skip
    refine j_iload_n dX12_paysByWay_29 rfl rfl ?_
    refine j_aload_n dX12_paysByWay_30 rfl rfl ?_
    refine j_getR (ci := 12) (N := 80) (f := 63) (T := TX12) 155 dX12_paysByWay_31 rfl (hG 112 (17, 80) rfl) rfl (by decide) fl_X12_146 rfl (hP 112 63 155 rfl) ?_
    refine j_aload_n dX12_paysByWay_34 rfl rfl ?_
    refine j_getR (ci := 12) (N := 80) (f := 64) (T := TX12) 156 dX12_paysByWay_35 rfl (hG 112 (17, 80) rfl) rfl (by decide) fl_X12_149 rfl (hP 112 64 156 rfl) ?_
    refine j_iload dX12_paysByWay_38 rfl rfl ?_
    refine j_iald' (j := (Int32.toNatClampNeg x4)) dX12_paysByWay_40 rfl (hG 156 (0, 8) rfl) (o0 c0) rfl ?_
    refine j_iald' (j := (Int32.toNatClampNeg (μ.1 156 (Int32.toNatClampNeg x4)))) dX12_paysByWay_41 rfl (hG 155 (0, 12) rfl) (o1 c0) rfl ?_
    refine j_iadd dX12_paysByWay_42 rfl ?_
    refine j_istore_n (ls' := [.ref 112, .null, .int x2, .int (x3 + (μ.1 155 (Int32.toNatClampNeg (μ.1 156 (Int32.toNatClampNeg x4))))), .int x4]) dX12_paysByWay_43 rfl rfl (Nat.le_of_ble_eq_true rfl) rfl ?_
    refine j_iinc (x4 + 1) (ls' := [.ref 112, .null, .int x2, .int (x3 + (μ.1 155 (Int32.toNatClampNeg (μ.1 156 (Int32.toNatClampNeg x4))))), .int (x4 + 1)]) dX12_paysByWay_44 rfl rfl rfl (Nat.le_of_ble_eq_true rfl) rfl ?_
    refine j_goto 20 dX12_paysByWay_47 (by decide) ?_
    exact k2 c0
theorem b_X12_way_0 {l : Launch} {G : jG} {μ : jM} {φ : Int32 → jM → Prop} {x1 x2 : Int32} {ψ0 : Int32 → jM → Prop} (hG : gMM G) (hP : gNN μ) 
    (e0 : jC0 l mX12_isGhost 1 G [.ref 112, .int x1] μ (pI ψ0)) 
    (k0 : ∀ v μ', ψ0 v μ' → J l mX12_way (jZ0 7 G (pI φ)) G 0 0 5 [.ref 112, .int x1, .int x2, .null, .null] [.int v] μ') :
    J l mX12_way (jZ0 7 G (pI φ)) G 0 0 0 [.ref 112, .int x1, .int x2, .null, .null] [] μ := by
  refine j_aload_n dX12_way_0 rfl rfl ?_
  refine j_iload_n dX12_way_1 rfl rfl ?_
  refine j_cV (as := [.int x1]) (rest := []) dX12_way_2 rfl vw_X12_433 (hG 112 (17, 80) rfl) rfl ⟨Nat.le_of_ble_eq_true rfl, Nat.le_of_ble_eq_true rfl⟩ rfl rfl (fun _ _ => Nat.le_of_ble_eq_true rfl) (e0 ) (fun r μ' hr => ?_)
  obtain ⟨v, rfl, hr⟩ := hr
  exact k0  v μ' hr
theorem b_X12_way_5 {l : Launch} {G : jG} {μ : jM} {φ : Int32 → jM → Prop} {x1 x2 z0 : Int32} {ψ1 : Int32 → jM → Prop} (hG : gMM G) (hP : gNN μ) 
    (k0 : (z0 = (0 : Int32)) → φ (-1) μ) 
    (e1 : (¬ (z0 = (0 : Int32))) → jC0 l mX12_in 0 G [.int x2, .int 0, .int 3] μ (pI ψ1)) 
    (k1 : (¬ (z0 = (0 : Int32))) → ∀ v μ', ψ1 v μ' → J l mX12_way (jZ0 7 G (pI φ)) G 0 0 14 [.ref 112, .int x1, .int x2, .null, .null] [.int v] μ') :
    J l mX12_way (jZ0 7 G (pI φ)) G 0 0 5 [.ref 112, .int x1, .int x2, .null, .null] [.int z0] μ := by
  refine j_if_eq 17 dX12_way_5 rfl (by decide) (fun c0 => ?_) (fun c0 => ?_)
  · skip
    refine j_iconst (-1) dX12_way_17 rfl (by decide) ?_
    exact j_iret dX12_way_18 rfl (k0 c0)
  · skip
    refine j_iload_n dX12_way_8 rfl rfl ?_
    refine j_iconst 0 dX12_way_9 rfl (by decide) ?_
    refine j_iconst 3 dX12_way_10 rfl (by decide) ?_
    refine j_cS (as := [.int x2, .int 0, .int 3]) (rest := []) dX12_way_11 rfl vw_X12_349 ⟨Nat.le_of_ble_eq_true rfl, Nat.le_of_ble_eq_true rfl⟩ rfl rfl (fun _ _ => Nat.le_of_ble_eq_true rfl) (e1 c0) (fun r μ' hr => ?_)
    obtain ⟨v, rfl, hr⟩ := hr
    exact k1 c0 v μ' hr
theorem b_X12_way_14 {l : Launch} {G : jG} {μ : jM} {φ : Int32 → jM → Prop} {x1 x2 z0 : Int32} {ψ0 : jM → Prop} (hG : gMM G) (hP : gNN μ) 
    (e0 : (¬ z0 = (0 : Int32)) → jC0 l mX12_copies 1 G [.ref 112] μ (pV ψ0)) 
    (k0 : (¬ z0 = (0 : Int32)) → ∀ μ', ψ0 μ' → J l mX12_way (jZ0 7 G (pI φ)) G 0 0 23 [.ref 112, .int x1, .int x2, .null, .null] [] μ') 
    (k1 : (z0 = (0 : Int32)) → φ (-1) μ) :
    J l mX12_way (jZ0 7 G (pI φ)) G 0 0 14 [.ref 112, .int x1, .int x2, .null, .null] [.int z0] μ := by
  refine j_if_ne 19 dX12_way_14 rfl (by decide) (fun c0 => ?_) (fun c0 => ?_)
  · skip
    refine j_aload_n dX12_way_19 rfl rfl ?_
    refine j_cV (as := []) (rest := []) dX12_way_20 rfl vw_X12_430 (hG 112 (17, 80) rfl) rfl ⟨Nat.le_of_ble_eq_true rfl, Nat.le_of_ble_eq_true rfl⟩ rfl rfl (fun _ _ => Nat.le_of_ble_eq_true rfl) (e0 c0) (fun r μ' hr => ?_)
    obtain ⟨rfl, hr⟩ := hr
    exact k0 c0 μ' hr
  · skip
    refine j_iconst (-1) dX12_way_17 rfl (by decide) ?_
    exact j_iret dX12_way_18 rfl (k1 c0)
theorem b_X12_way_23 {l : Launch} {G : jG} {μ : jM} {φ : Int32 → jM → Prop} {x1 x2 : Int32} {ψ0 : Int32 → jM → Prop} (hG : gMM G) (hP : gNN μ) 
    (e0 : jC0 l mX12_findsWay 6 G [.ref 112, .int x1] μ (pI ψ0)) 
    (k0 : ∀ v μ', ψ0 v μ' → J l mX12_way (jZ0 7 G (pI φ)) G 0 0 28 [.ref 112, .int x1, .int x2, .null, .null] [.int v] μ') :
    J l mX12_way (jZ0 7 G (pI φ)) G 0 0 23 [.ref 112, .int x1, .int x2, .null, .null] [] μ := by
  refine j_aload_n dX12_way_23 rfl rfl ?_
  refine j_iload_n dX12_way_24 rfl rfl ?_
  refine j_cV (as := [.int x1]) (rest := []) dX12_way_25 rfl vw_X12_418 (hG 112 (17, 80) rfl) rfl ⟨Nat.le_of_ble_eq_true rfl, Nat.le_of_ble_eq_true rfl⟩ rfl rfl (fun _ _ => Nat.le_of_ble_eq_true rfl) (e0 ) (fun r μ' hr => ?_)
  obtain ⟨v, rfl, hr⟩ := hr
  exact k0  v μ' hr
theorem b_X12_way_28 {l : Launch} {G : jG} {μ : jM} {φ : Int32 → jM → Prop} {x1 x2 z0 : Int32} {ψ3 : Int32 → jM → Prop} (hG : gMM G) (hP : gNN μ) 
    (o0 : (¬ z0 = (0 : Int32)) → (x2 = (0 : Int32)) → vp_in ((7 * (μ.1 112 18)) + x1) 14) 
    (o1 : (¬ z0 = (0 : Int32)) → (x2 = (0 : Int32)) → vp_in (μ.1 130 (Int32.toNatClampNeg ((7 * (μ.1 112 18)) + x1))) 8) 
    (k0 : (¬ z0 = (0 : Int32)) → (x2 = (0 : Int32)) → φ (μ.1 153 (Int32.toNatClampNeg (μ.1 130 (Int32.toNatClampNeg ((7 * (μ.1 112 18)) + x1))))) μ) 
    (k1 : (¬ z0 = (0 : Int32)) → (¬ x2 = (0 : Int32)) → (x2 = (1 : Int32)) → J l mX12_way (jZ0 7 G (pI φ)) G 0 0 87 [.ref 112, .null, .null, .int 0, .int 0] [] μ) 
    (k2 : (¬ z0 = (0 : Int32)) → (¬ x2 = (0 : Int32)) → (¬ x2 = (1 : Int32)) → (x2 = (2 : Int32)) → φ (μ.1 112 65) μ) 
    (e3 : (¬ z0 = (0 : Int32)) → (¬ x2 = (0 : Int32)) → (¬ x2 = (1 : Int32)) → (¬ x2 = (2 : Int32)) → jC0 l mX12_paysByWay 0 G [.ref 112, .int x1] μ (pI ψ3)) 
    (k3 : (¬ z0 = (0 : Int32)) → (¬ x2 = (0 : Int32)) → (¬ x2 = (1 : Int32)) → (¬ x2 = (2 : Int32)) → ∀ v μ', ψ3 v μ' → J l mX12_way (jZ0 7 G (pI φ)) G 0 0 137 [.null, .null, .null, .null, .null] [.int v] μ') 
    (k4 : (z0 = (0 : Int32)) → φ (-2) μ) :
    J l mX12_way (jZ0 7 G (pI φ)) G 0 0 28 [.ref 112, .int x1, .int x2, .null, .null] [.int z0] μ := by
  refine j_if_ne 34 dX12_way_28 rfl (by decide) (fun c0 => ?_) (fun c0 => ?_)
  · skip
    refine j_iconst 0 dX12_way_34 rfl (by decide) ?_
    refine j_istore_n (ls' := [.ref 112, .int x1, .int x2, .int 0, .null]) dX12_way_35 rfl rfl (Nat.le_of_ble_eq_true rfl) rfl ?_
    refine j_iload_n dX12_way_36 rfl rfl ?_
    by_cases c1 : x2 = (0 : Int32)
    · skip
      refine j_tableIn (off := 27) 64 dX12_way_37 (sw_1 c1 (by decide)) (sw_2 c1 (by decide)) (sw_3 c1 (by decide)) (by decide) ?_
      refine j_aload_n dX12_way_64 rfl rfl ?_
      refine j_getR (ci := 12) (N := 80) (f := 61) (T := TX12) 153 dX12_way_65 rfl (hG 112 (17, 80) rfl) rfl (by decide) fl_X12_140 rfl (hP 112 61 153 rfl) ?_
      refine j_aload_n dX12_way_68 rfl rfl ?_
      refine j_getR (ci := 12) (N := 80) (f := 31) (T := TX12) 130 dX12_way_69 rfl (hG 112 (17, 80) rfl) rfl (by decide) fl_X12_71 rfl (hP 112 31 130 rfl) ?_
      refine j_bipush 7 dX12_way_72 rfl (by decide) ?_
      refine j_aload_n dX12_way_74 rfl rfl ?_
      refine j_getI (ci := 12) (N := 80) (f := 18) (T := TX12) dX12_way_75 rfl (hG 112 (17, 80) rfl) rfl (by decide) fl_X12_263 rfl ?_
      refine j_imul dX12_way_78 rfl ?_
      refine j_iload_n dX12_way_79 rfl rfl ?_
      refine j_iadd dX12_way_80 rfl ?_
      refine j_iald' (j := (Int32.toNatClampNeg ((7 * (μ.1 112 18)) + x1))) dX12_way_81 rfl (hG 130 (0, 14) rfl) (o0 c0 c1) rfl ?_
      refine j_iald' (j := (Int32.toNatClampNeg (μ.1 130 (Int32.toNatClampNeg ((7 * (μ.1 112 18)) + x1))))) dX12_way_82 rfl (hG 153 (0, 8) rfl) (o1 c0 c1) rfl ?_
      exact j_iret dX12_way_83 rfl (k0 c0 c1)
    by_cases c2 : x2 = (1 : Int32)
    · skip
      refine j_tableIn (off := 47) 84 dX12_way_37 (sw_1 c2 (by decide)) (sw_2 c2 (by decide)) (sw_3 c2 (by decide)) (by decide) ?_
      refine j_iconst 0 dX12_way_84 rfl (by decide) ?_
      refine j_istore (ls' := [.ref 112, .int x1, .int x2, .int 0, .int 0]) dX12_way_85 rfl (Nat.le_of_ble_eq_true rfl) rfl ?_
      refine j_forget (ls' := [.ref 112, .null, .null, .int 0, .int 0]) ⟨Or.inr rfl, Or.inl rfl, Or.inl rfl, Or.inr rfl, Or.inr rfl, trivial⟩ ?_
      exact k1 c0 c1 c2
    by_cases c3 : x2 = (2 : Int32)
    · skip
      refine j_tableIn (off := 90) 127 dX12_way_37 (sw_1 c3 (by decide)) (sw_2 c3 (by decide)) (sw_3 c3 (by decide)) (by decide) ?_
      refine j_aload_n dX12_way_127 rfl rfl ?_
      refine j_getI (ci := 12) (N := 80) (f := 65) (T := TX12) dX12_way_128 rfl (hG 112 (17, 80) rfl) rfl (by decide) fl_X12_409 rfl ?_
      exact j_iret dX12_way_131 rfl (k2 c0 c1 c2 c3)
    refine j_tableOut 132 dX12_way_37 (sw_o [0, 1, 2] (by decide) ⟨c1, c2, c3, trivial⟩) (by decide) ?_
    refine j_aload_n dX12_way_132 rfl rfl ?_
    refine j_iload_n dX12_way_133 rfl rfl ?_
    refine j_cV (as := [.int x1]) (rest := []) dX12_way_134 rfl vw_X12_436 (hG 112 (17, 80) rfl) rfl ⟨Nat.le_of_ble_eq_true rfl, Nat.le_of_ble_eq_true rfl⟩ rfl rfl (fun _ _ => Nat.le_of_ble_eq_true rfl) (e3 c0 c1 c2 c3) (fun r μ' hr => ?_)
    obtain ⟨v, rfl, hr⟩ := hr
    refine j_forget (ls' := [.null, .null, .null, .null, .null]) ⟨Or.inl rfl, Or.inl rfl, Or.inl rfl, Or.inl rfl, Or.inr rfl, trivial⟩ ?_
    exact k3 c0 c1 c2 c3 v μ' hr
  · skip
    refine j_bipush (-2) dX12_way_31 rfl (by decide) ?_
    exact j_iret dX12_way_33 rfl (k4 c0)
theorem b_X12_way_87 {l : Launch} {G : jG} {μ : jM} {φ : Int32 → jM → Prop} {x3 x4 : Int32} (hG : gMM G) (hP : gNN μ) 
    (k0 : ((μ.1 112 65) ≤ (x4 : Int32)) → φ x3 μ) 
    (o0 : (¬ ((μ.1 112 65) ≤ (x4 : Int32))) → vp_in x4 8) 
    (o1 : (¬ ((μ.1 112 65) ≤ (x4 : Int32))) → vp_in ((12 * (μ.1 112 18)) + (μ.1 156 (Int32.toNatClampNeg x4))) 24) 
    (k1 : (¬ ((μ.1 112 65) ≤ (x4 : Int32))) → J l mX12_way (jZ0 7 G (pI φ)) G 0 0 87 [.ref 112, .null, .null, .int (x3 + (μ.1 126 (Int32.toNatClampNeg ((12 * (μ.1 112 18)) + (μ.1 156 (Int32.toNatClampNeg x4)))))), .int (x4 + 1)] [] μ) :
    J l mX12_way (jZ0 7 G (pI φ)) G 0 0 87 [.ref 112, .null, .null, .int x3, .int x4] [] μ := by
  refine j_iload dX12_way_87 rfl rfl ?_
  refine j_aload_n dX12_way_89 rfl rfl ?_
  refine j_getI (ci := 12) (N := 80) (f := 65) (T := TX12) dX12_way_90 rfl (hG 112 (17, 80) rfl) rfl (by decide) fl_X12_409 rfl ?_
  refine j_icmp_ge 125 dX12_way_93 rfl (by decide) (fun c0 => ?_) (fun c0 => ?_)
  · skip
    refine j_iload_n dX12_way_125 rfl rfl ?_
    exact j_iret dX12_way_126 rfl (k0 c0)
  · skip
    refine j_iload_n dX12_way_96 rfl rfl ?_
    refine j_aload_n dX12_way_97 rfl rfl ?_
    refine j_getR (ci := 12) (N := 80) (f := 27) (T := TX12) 126 dX12_way_98 rfl (hG 112 (17, 80) rfl) rfl (by decide) fl_X12_58 rfl (hP 112 27 126 rfl) ?_
    refine j_bipush 12 dX12_way_101 rfl (by decide) ?_
    refine j_aload_n dX12_way_103 rfl rfl ?_
    refine j_getI (ci := 12) (N := 80) (f := 18) (T := TX12) dX12_way_104 rfl (hG 112 (17, 80) rfl) rfl (by decide) fl_X12_263 rfl ?_
    refine j_imul dX12_way_107 rfl ?_
    refine j_aload_n dX12_way_108 rfl rfl ?_
    refine j_getR (ci := 12) (N := 80) (f := 64) (T := TX12) 156 dX12_way_109 rfl (hG 112 (17, 80) rfl) rfl (by decide) fl_X12_149 rfl (hP 112 64 156 rfl) ?_
    refine j_iload dX12_way_112 rfl rfl ?_
    refine j_iald' (j := (Int32.toNatClampNeg x4)) dX12_way_114 rfl (hG 156 (0, 8) rfl) (o0 c0) rfl ?_
    refine j_iadd dX12_way_115 rfl ?_
    refine j_iald' (j := (Int32.toNatClampNeg ((12 * (μ.1 112 18)) + (μ.1 156 (Int32.toNatClampNeg x4))))) dX12_way_116 rfl (hG 126 (0, 24) rfl) (o1 c0) rfl ?_
    refine j_iadd dX12_way_117 rfl ?_
    refine j_istore_n (ls' := [.ref 112, .null, .null, .int (x3 + (μ.1 126 (Int32.toNatClampNeg ((12 * (μ.1 112 18)) + (μ.1 156 (Int32.toNatClampNeg x4)))))), .int x4]) dX12_way_118 rfl rfl (Nat.le_of_ble_eq_true rfl) rfl ?_
    refine j_iinc (x4 + 1) (ls' := [.ref 112, .null, .null, .int (x3 + (μ.1 126 (Int32.toNatClampNeg ((12 * (μ.1 112 18)) + (μ.1 156 (Int32.toNatClampNeg x4)))))), .int (x4 + 1)]) dX12_way_119 rfl rfl rfl (Nat.le_of_ble_eq_true rfl) rfl ?_
    refine j_goto 87 dX12_way_122 (by decide) ?_
    exact k1 c0
theorem b_X12_way_137 {l : Launch} {G : jG} {μ : jM} {φ : Int32 → jM → Prop} {z0 : Int32} (hG : gMM G) (hP : gNN μ) 
    (k0 : φ z0 μ) :
    J l mX12_way (jZ0 7 G (pI φ)) G 0 0 137 [.null, .null, .null, .null, .null] [.int z0] μ := by
  exact j_iret dX12_way_137 rfl (k0 )
theorem b_X12_wayAt_0 {l : Launch} {G : jG} {μ : jM} {φ : Int32 → jM → Prop} {x1 x2 : Int32} {ψ0 : Int32 → jM → Prop} (hG : gMM G) (hP : gNN μ) 
    (e0 : jC0 l mX12_isGhost 1 G [.ref 112, .int x1] μ (pI ψ0)) 
    (k0 : ∀ v μ', ψ0 v μ' → J l mX12_wayAt (jZ0 7 G (pI φ)) G 0 0 5 [.ref 112, .int x1, .int x2] [.int v] μ') :
    J l mX12_wayAt (jZ0 7 G (pI φ)) G 0 0 0 [.ref 112, .int x1, .int x2] [] μ := by
  refine j_aload_n dX12_wayAt_0 rfl rfl ?_
  refine j_iload_n dX12_wayAt_1 rfl rfl ?_
  refine j_cV (as := [.int x1]) (rest := []) dX12_wayAt_2 rfl vw_X12_433 (hG 112 (17, 80) rfl) rfl ⟨Nat.le_of_ble_eq_true rfl, Nat.le_of_ble_eq_true rfl⟩ rfl rfl (fun _ _ => Nat.le_of_ble_eq_true rfl) (e0 ) (fun r μ' hr => ?_)
  obtain ⟨v, rfl, hr⟩ := hr
  exact k0  v μ' hr
theorem b_X12_wayAt_5 {l : Launch} {G : jG} {μ : jM} {φ : Int32 → jM → Prop} {x1 x2 z0 : Int32} {ψ1 : jM → Prop} (hG : gMM G) (hP : gNN μ) 
    (k0 : (z0 = (0 : Int32)) → φ (-1) μ) 
    (e1 : (¬ (z0 = (0 : Int32))) → (0 ≤ (x2 : Int32)) → jC0 l mX12_copies 1 G [.ref 112] μ (pV ψ1)) 
    (k1 : (¬ (z0 = (0 : Int32))) → (0 ≤ (x2 : Int32)) → ∀ μ', ψ1 μ' → J l mX12_wayAt (jZ0 7 G (pI φ)) G 0 0 18 [.ref 112, .int x1, .int x2] [] μ') 
    (k2 : (¬ (z0 = (0 : Int32))) → (¬ (0 ≤ (x2 : Int32))) → φ (-1) μ) :
    J l mX12_wayAt (jZ0 7 G (pI φ)) G 0 0 5 [.ref 112, .int x1, .int x2] [.int z0] μ := by
  refine j_if_eq 12 dX12_wayAt_5 rfl (by decide) (fun c0 => ?_) (fun c0 => ?_)
  · skip
    refine j_iconst (-1) dX12_wayAt_12 rfl (by decide) ?_
    exact j_iret dX12_wayAt_13 rfl (k0 c0)
  · skip
    refine j_iload_n dX12_wayAt_8 rfl rfl ?_
    refine j_if_ge 14 dX12_wayAt_9 rfl (by decide) (fun c1 => ?_) (fun c1 => ?_)
    · skip
      refine j_aload_n dX12_wayAt_14 rfl rfl ?_
      refine j_cV (as := []) (rest := []) dX12_wayAt_15 rfl vw_X12_430 (hG 112 (17, 80) rfl) rfl ⟨Nat.le_of_ble_eq_true rfl, Nat.le_of_ble_eq_true rfl⟩ rfl rfl (fun _ _ => Nat.le_of_ble_eq_true rfl) (e1 c0 c1) (fun r μ' hr => ?_)
      obtain ⟨rfl, hr⟩ := hr
      exact k1 c0 c1 μ' hr
    · skip
      refine j_iconst (-1) dX12_wayAt_12 rfl (by decide) ?_
      exact j_iret dX12_wayAt_13 rfl (k2 c0 c1)
theorem b_X12_wayAt_18 {l : Launch} {G : jG} {μ : jM} {φ : Int32 → jM → Prop} {x1 x2 : Int32} {ψ0 : Int32 → jM → Prop} (hG : gMM G) (hP : gNN μ) 
    (e0 : jC0 l mX12_findsWay 6 G [.ref 112, .int x1] μ (pI ψ0)) 
    (k0 : ∀ v μ', ψ0 v μ' → J l mX12_wayAt (jZ0 7 G (pI φ)) G 0 0 23 [.ref 112, .null, .int x2] [.int v] μ') :
    J l mX12_wayAt (jZ0 7 G (pI φ)) G 0 0 18 [.ref 112, .int x1, .int x2] [] μ := by
  refine j_aload_n dX12_wayAt_18 rfl rfl ?_
  refine j_iload_n dX12_wayAt_19 rfl rfl ?_
  refine j_cV (as := [.int x1]) (rest := []) dX12_wayAt_20 rfl vw_X12_418 (hG 112 (17, 80) rfl) rfl ⟨Nat.le_of_ble_eq_true rfl, Nat.le_of_ble_eq_true rfl⟩ rfl rfl (fun _ _ => Nat.le_of_ble_eq_true rfl) (e0 ) (fun r μ' hr => ?_)
  obtain ⟨v, rfl, hr⟩ := hr
  refine j_forget (ls' := [.ref 112, .null, .int x2]) ⟨Or.inr rfl, Or.inl rfl, Or.inr rfl, trivial⟩ ?_
  exact k0  v μ' hr
theorem b_X12_wayAt_23 {l : Launch} {G : jG} {μ : jM} {φ : Int32 → jM → Prop} {x2 z0 : Int32} (hG : gMM G) (hP : gNN μ) 
    (k0 : (¬ z0 = (0 : Int32)) → ((μ.1 112 65) ≤ (x2 : Int32)) → φ (-1) μ) 
    (o0 : (¬ z0 = (0 : Int32)) → (¬ ((μ.1 112 65) ≤ (x2 : Int32))) → vp_in x2 8) 
    (k1 : (¬ z0 = (0 : Int32)) → (¬ ((μ.1 112 65) ≤ (x2 : Int32))) → φ (μ.1 156 (Int32.toNatClampNeg x2)) μ) 
    (k2 : (z0 = (0 : Int32)) → φ (-2) μ) :
    J l mX12_wayAt (jZ0 7 G (pI φ)) G 0 0 23 [.ref 112, .null, .int x2] [.int z0] μ := by
  refine j_if_ne 29 dX12_wayAt_23 rfl (by decide) (fun c0 => ?_) (fun c0 => ?_)
  · skip
    refine j_iload_n dX12_wayAt_29 rfl rfl ?_
    refine j_aload_n dX12_wayAt_30 rfl rfl ?_
    refine j_getI (ci := 12) (N := 80) (f := 65) (T := TX12) dX12_wayAt_31 rfl (hG 112 (17, 80) rfl) rfl (by decide) fl_X12_409 rfl ?_
    refine j_icmp_ge 46 dX12_wayAt_34 rfl (by decide) (fun c1 => ?_) (fun c1 => ?_)
    · skip
      refine j_iconst (-1) dX12_wayAt_46 rfl (by decide) ?_
      exact j_iret dX12_wayAt_47 rfl (k0 c0 c1)
    · skip
      refine j_aload_n dX12_wayAt_37 rfl rfl ?_
      refine j_getR (ci := 12) (N := 80) (f := 64) (T := TX12) 156 dX12_wayAt_38 rfl (hG 112 (17, 80) rfl) rfl (by decide) fl_X12_149 rfl (hP 112 64 156 rfl) ?_
      refine j_iload_n dX12_wayAt_41 rfl rfl ?_
      refine j_iald' (j := (Int32.toNatClampNeg x2)) dX12_wayAt_42 rfl (hG 156 (0, 8) rfl) (o0 c0 c1) rfl ?_
      refine j_goto 47 dX12_wayAt_43 (by decide) ?_
      exact j_iret dX12_wayAt_47 rfl (k1 c0 c1)
  · skip
    refine j_bipush (-2) dX12_wayAt_26 rfl (by decide) ?_
    exact j_iret dX12_wayAt_28 rfl (k2 c0)
theorem b_X12_keeps_0 {l : Launch} {G : jG} {μ : jM} {φ : jM → Prop} (hG : gMM G) (hP : gNN μ) 
    (k0 : (¬ (μ.1 112 66) = (40 : Int32)) → J l mX12_keeps (jZ0 1 G (pV φ)) G 0 0 51 [.ref 112, .int 0] [] μ) 
    (k1 : ((μ.1 112 66) = (40 : Int32)) → J l mX12_keeps (jZ0 1 G (pV φ)) G 0 0 11 [.ref 112, .int 0] [] μ) :
    J l mX12_keeps (jZ0 1 G (pV φ)) G 0 0 0 [.ref 112, .null] [] μ := by
  refine j_aload_n dX12_keeps_0 rfl rfl ?_
  refine j_getI (ci := 12) (N := 80) (f := 66) (T := TX12) dX12_keeps_1 rfl (hG 112 (17, 80) rfl) rfl (by decide) fl_X12_281 rfl ?_
  refine j_bipush 40 dX12_keeps_4 rfl (by decide) ?_
  refine j_icmp_ne 49 dX12_keeps_6 rfl (by decide) (fun c0 => ?_) (fun c0 => ?_)
  · skip
    refine j_iconst 0 dX12_keeps_49 rfl (by decide) ?_
    refine j_istore_n (ls' := [.ref 112, .int 0]) dX12_keeps_50 rfl rfl (Nat.le_of_ble_eq_true rfl) rfl ?_
    exact k0 c0
  · skip
    refine j_iconst 0 dX12_keeps_9 rfl (by decide) ?_
    refine j_istore_n (ls' := [.ref 112, .int 0]) dX12_keeps_10 rfl rfl (Nat.le_of_ble_eq_true rfl) rfl ?_
    exact k1 c0
theorem b_X12_keeps_11 {l : Launch} {G : jG} {μ : jM} {φ : jM → Prop} {x1 : Int32} (hG : gMM G) (hP : gNN μ) 
    (k0 : (2652 ≤ (x1 : Int32)) → J l mX12_keeps (jZ0 1 G (pV φ)) G 0 0 51 [.ref 112, .int 0] [] (wI μ 112 66 ((μ.1 112 66) - 1))) 
    (o0 : (¬ (2652 ≤ (x1 : Int32))) → vp_in (x1 + 68) 2720) 
    (o1 : (¬ (2652 ≤ (x1 : Int32))) → vp_in x1 2720) 
    (k1 : (¬ (2652 ≤ (x1 : Int32))) → J l mX12_keeps (jZ0 1 G (pV φ)) G 0 0 11 [.ref 112, .int (x1 + 1)] [] (wI μ 157 (Int32.toNatClampNeg x1) (μ.1 157 (Int32.toNatClampNeg (x1 + 68))))) :
    J l mX12_keeps (jZ0 1 G (pV φ)) G 0 0 11 [.ref 112, .int x1] [] μ := by
  refine j_iload_n dX12_keeps_11 rfl rfl ?_
  refine j_sipush 2652 dX12_keeps_12 rfl (by decide) ?_
  refine j_icmp_ge 39 dX12_keeps_15 rfl (by decide) (fun c0 => ?_) (fun c0 => ?_)
  · skip
    refine j_aload_n dX12_keeps_39 rfl rfl ?_
    refine j_dup dX12_keeps_40 rfl (fun _ _ => rfl) ?_
    refine j_getI (ci := 12) (N := 80) (f := 66) (T := TX12) dX12_keeps_41 rfl (hG 112 (17, 80) rfl) rfl (by decide) fl_X12_281 rfl ?_
    refine j_iconst 1 dX12_keeps_44 rfl (by decide) ?_
    refine j_isub dX12_keeps_45 rfl ?_
    refine j_putI (ci := 12) (N := 80) (f := 66) (T := TX12) dX12_keeps_46 rfl (hG 112 (17, 80) rfl) rfl (by decide) fl_X12_281 rfl rfl ?_
    refine j_iconst 0 dX12_keeps_49 rfl (by decide) ?_
    refine j_istore_n (ls' := [.ref 112, .int 0]) dX12_keeps_50 rfl rfl (Nat.le_of_ble_eq_true rfl) rfl ?_
    exact k0 c0
  · skip
    refine j_aload_n dX12_keeps_18 rfl rfl ?_
    refine j_getR (ci := 12) (N := 80) (f := 67) (T := TX12) 157 dX12_keeps_19 rfl (hG 112 (17, 80) rfl) rfl (by decide) fl_X12_152 rfl (hP 112 67 157 rfl) ?_
    refine j_iload_n dX12_keeps_22 rfl rfl ?_
    refine j_aload_n dX12_keeps_23 rfl rfl ?_
    refine j_getR (ci := 12) (N := 80) (f := 67) (T := TX12) 157 dX12_keeps_24 rfl (hG 112 (17, 80) rfl) rfl (by decide) fl_X12_152 rfl (hP 112 67 157 rfl) ?_
    refine j_iload_n dX12_keeps_27 rfl rfl ?_
    refine j_bipush 68 dX12_keeps_28 rfl (by decide) ?_
    refine j_iadd dX12_keeps_30 rfl ?_
    refine j_iald' (j := (Int32.toNatClampNeg (x1 + 68))) dX12_keeps_31 rfl (hG 157 (0, 2720) rfl) (o0 c0) rfl ?_
    refine j_iast' (j := (Int32.toNatClampNeg x1)) dX12_keeps_32 rfl (hG 157 (0, 2720) rfl) (o1 c0) rfl ?_
    refine j_iinc (x1 + 1) (ls' := [.ref 112, .int (x1 + 1)]) dX12_keeps_33 rfl rfl rfl (Nat.le_of_ble_eq_true rfl) rfl ?_
    refine j_goto 11 dX12_keeps_36 (by decide) ?_
    exact k1 c0
theorem b_X12_keeps_51 {l : Launch} {G : jG} {μ : jM} {φ : jM → Prop} {x1 : Int32} {ψ0 : jM → Prop} (hG : gMM G) (hP : gNN μ) 
    (e0 : (68 ≤ (x1 : Int32)) → jC0 l mX12_keepsRow 0 G [.ref 112] (wI μ 112 66 ((μ.1 112 66) + 1)) (pV ψ0)) 
    (k0 : (68 ≤ (x1 : Int32)) → ∀ μ', ψ0 μ' → J l mX12_keeps (jZ0 1 G (pV φ)) G 0 0 97 [.null, .null] [] μ') 
    (o0 : (¬ (68 ≤ (x1 : Int32))) → vp_in x1 68) 
    (o1 : (¬ (68 ≤ (x1 : Int32))) → vp_in ((68 * (μ.1 112 66)) + x1) 2720) 
    (k1 : (¬ (68 ≤ (x1 : Int32))) → J l mX12_keeps (jZ0 1 G (pV φ)) G 0 0 51 [.ref 112, .int (x1 + 1)] [] (wI μ 157 (Int32.toNatClampNeg ((68 * (μ.1 112 66)) + x1)) (μ.1 151 (Int32.toNatClampNeg x1)))) :
    J l mX12_keeps (jZ0 1 G (pV φ)) G 0 0 51 [.ref 112, .int x1] [] μ := by
  refine j_iload_n dX12_keeps_51 rfl rfl ?_
  refine j_bipush 68 dX12_keeps_52 rfl (by decide) ?_
  refine j_icmp_ge 83 dX12_keeps_54 rfl (by decide) (fun c0 => ?_) (fun c0 => ?_)
  · skip
    refine j_aload_n dX12_keeps_83 rfl rfl ?_
    refine j_dup dX12_keeps_84 rfl (fun _ _ => rfl) ?_
    refine j_getI (ci := 12) (N := 80) (f := 66) (T := TX12) dX12_keeps_85 rfl (hG 112 (17, 80) rfl) rfl (by decide) fl_X12_281 rfl ?_
    refine j_iconst 1 dX12_keeps_88 rfl (by decide) ?_
    refine j_iadd dX12_keeps_89 rfl ?_
    refine j_putI (ci := 12) (N := 80) (f := 66) (T := TX12) dX12_keeps_90 rfl (hG 112 (17, 80) rfl) rfl (by decide) fl_X12_281 rfl rfl ?_
    refine j_aload_n dX12_keeps_93 rfl rfl ?_
    refine j_cV (as := []) (rest := []) dX12_keeps_94 rfl vw_X12_193 (hG 112 (17, 80) rfl) rfl ⟨Nat.le_of_ble_eq_true rfl, Nat.le_of_ble_eq_true rfl⟩ rfl rfl (fun _ _ => Nat.le_of_ble_eq_true rfl) (e0 c0) (fun r μ' hr => ?_)
    obtain ⟨rfl, hr⟩ := hr
    refine j_forget (ls' := [.null, .null]) ⟨Or.inl rfl, Or.inl rfl, trivial⟩ ?_
    exact k0 c0 μ' hr
  · skip
    refine j_aload_n dX12_keeps_57 rfl rfl ?_
    refine j_getR (ci := 12) (N := 80) (f := 67) (T := TX12) 157 dX12_keeps_58 rfl (hG 112 (17, 80) rfl) rfl (by decide) fl_X12_152 rfl (hP 112 67 157 rfl) ?_
    refine j_bipush 68 dX12_keeps_61 rfl (by decide) ?_
    refine j_aload_n dX12_keeps_63 rfl rfl ?_
    refine j_getI (ci := 12) (N := 80) (f := 66) (T := TX12) dX12_keeps_64 rfl (hG 112 (17, 80) rfl) rfl (by decide) fl_X12_281 rfl ?_
    refine j_imul dX12_keeps_67 rfl ?_
    refine j_iload_n dX12_keeps_68 rfl rfl ?_
    refine j_iadd dX12_keeps_69 rfl ?_
    refine j_aload_n dX12_keeps_70 rfl rfl ?_
    refine j_getR (ci := 12) (N := 80) (f := 56) (T := TX12) 151 dX12_keeps_71 rfl (hG 112 (17, 80) rfl) rfl (by decide) fl_X12_134 rfl (hP 112 56 151 rfl) ?_
    refine j_iload_n dX12_keeps_74 rfl rfl ?_
    refine j_iald' (j := (Int32.toNatClampNeg x1)) dX12_keeps_75 rfl (hG 151 (0, 68) rfl) (o0 c0) rfl ?_
    refine j_iast' (j := (Int32.toNatClampNeg ((68 * (μ.1 112 66)) + x1))) dX12_keeps_76 rfl (hG 157 (0, 2720) rfl) (o1 c0) rfl ?_
    refine j_iinc (x1 + 1) (ls' := [.ref 112, .int (x1 + 1)]) dX12_keeps_77 rfl rfl rfl (Nat.le_of_ble_eq_true rfl) rfl ?_
    refine j_goto 51 dX12_keeps_80 (by decide) ?_
    exact k1 c0
theorem b_X12_keeps_97 {l : Launch} {G : jG} {μ : jM} {φ : jM → Prop} (hG : gMM G) (hP : gNN μ) 
    (k0 : φ μ) :
    J l mX12_keeps (jZ0 1 G (pV φ)) G 0 0 97 [.null, .null] [] μ := by
  exact j_vret dX12_keeps_97 rfl (k0 )
theorem b_X12_gate_0 {l : Launch} {G : jG} {μ : jM} {φ : Int32 → jM → Prop} {x1 x2 : Int32} {ψ0 : Int32 → jM → Prop} (hG : gMM G) (hP : gNN μ) 
    (e0 : jC0 l mX12_isRoad 1 G [.ref 112, .int x1] μ (pI ψ0)) 
    (k0 : ∀ v μ', ψ0 v μ' → J l mX12_gate (jZ0 2 G (pI φ)) G 0 0 5 [.ref 112, .int x1, .int x2] [.int v] μ') :
    J l mX12_gate (jZ0 2 G (pI φ)) G 0 0 0 [.ref 112, .int x1, .int x2] [] μ := by
  refine j_aload_n dX12_gate_0 rfl rfl ?_
  refine j_iload_n dX12_gate_1 rfl rfl ?_
  refine j_cV (as := [.int x1]) (rest := []) dX12_gate_2 rfl vw_X12_427 (hG 112 (17, 80) rfl) rfl ⟨Nat.le_of_ble_eq_true rfl, Nat.le_of_ble_eq_true rfl⟩ rfl rfl (fun _ _ => Nat.le_of_ble_eq_true rfl) (e0 ) (fun r μ' hr => ?_)
  obtain ⟨v, rfl, hr⟩ := hr
  exact k0  v μ' hr
theorem b_X12_gate_5 {l : Launch} {G : jG} {μ : jM} {φ : Int32 → jM → Prop} {x1 x2 z0 : Int32} {ψ1 : jM → Prop} {ψ3 : jM → Prop} (hG : gMM G) (hP : gNN μ) 
    (k0 : (z0 = (0 : Int32)) → φ 0 μ) 
    (e1 : (¬ (z0 = (0 : Int32))) → (¬ (((μ.1 151 64) >>> (x1 &&& 31)) &&& 1) = (1 : Int32)) → (¬ 0 = (x2 : Int32)) → jC0 l mX12_copies 1 G [.ref 112] μ (pV ψ1)) 
    (k1 : (¬ (z0 = (0 : Int32))) → (¬ (((μ.1 151 64) >>> (x1 &&& 31)) &&& 1) = (1 : Int32)) → (¬ 0 = (x2 : Int32)) → ∀ μ', ψ1 μ' → J l mX12_gate (jZ0 2 G (pI φ)) G 0 0 38 [.ref 112, .int x1, .null] [] μ') 
    (k2 : (¬ (z0 = (0 : Int32))) → (¬ (((μ.1 151 64) >>> (x1 &&& 31)) &&& 1) = (1 : Int32)) → (0 = (x2 : Int32)) → φ 0 μ) 
    (e3 : (¬ (z0 = (0 : Int32))) → ((((μ.1 151 64) >>> (x1 &&& 31)) &&& 1) = (1 : Int32)) → (¬ 1 = (x2 : Int32)) → jC0 l mX12_copies 1 G [.ref 112] μ (pV ψ3)) 
    (k3 : (¬ (z0 = (0 : Int32))) → ((((μ.1 151 64) >>> (x1 &&& 31)) &&& 1) = (1 : Int32)) → (¬ 1 = (x2 : Int32)) → ∀ μ', ψ3 μ' → J l mX12_gate (jZ0 2 G (pI φ)) G 0 0 38 [.ref 112, .int x1, .null] [] μ') 
    (k4 : (¬ (z0 = (0 : Int32))) → ((((μ.1 151 64) >>> (x1 &&& 31)) &&& 1) = (1 : Int32)) → (1 = (x2 : Int32)) → φ 0 μ) :
    J l mX12_gate (jZ0 2 G (pI φ)) G 0 0 5 [.ref 112, .int x1, .int x2] [.int z0] μ := by
  refine j_if_eq 32 dX12_gate_5 rfl (by decide) (fun c0 => ?_) (fun c0 => ?_)
  · skip
    refine j_iconst 0 dX12_gate_32 rfl (by decide) ?_
    exact j_zret dX12_gate_33 rfl (by decide) (k0 c0)
  · skip
    refine j_aload_n dX12_gate_8 rfl rfl ?_
    refine j_getR (ci := 12) (N := 80) (f := 56) (T := TX12) 151 dX12_gate_9 rfl (hG 112 (17, 80) rfl) rfl (by decide) fl_X12_134 rfl (hP 112 56 151 rfl) ?_
    refine j_bipush 64 dX12_gate_12 rfl (by decide) ?_
    refine j_iald' (j := 64) dX12_gate_14 rfl (hG 151 (0, 68) rfl) (vpK (by decide)) (by decide) ?_
    refine j_iload_n dX12_gate_15 rfl rfl ?_
    refine j_ishr dX12_gate_16 rfl ?_
    refine j_iconst 1 dX12_gate_17 rfl (by decide) ?_
    refine j_iand dX12_gate_18 rfl ?_
    refine j_iconst 1 dX12_gate_19 rfl (by decide) ?_
    refine j_icmp_ne 27 dX12_gate_20 rfl (by decide) (fun c1 => ?_) (fun c1 => ?_)
    · skip
      refine j_iconst 0 dX12_gate_27 rfl (by decide) ?_
      refine j_iload_n dX12_gate_28 rfl rfl ?_
      refine j_icmp_ne 34 dX12_gate_29 rfl (by decide) (fun c2 => ?_) (fun c2 => ?_)
      · skip
        refine j_aload_n dX12_gate_34 rfl rfl ?_
        refine j_cV (as := []) (rest := []) dX12_gate_35 rfl vw_X12_430 (hG 112 (17, 80) rfl) rfl ⟨Nat.le_of_ble_eq_true rfl, Nat.le_of_ble_eq_true rfl⟩ rfl rfl (fun _ _ => Nat.le_of_ble_eq_true rfl) (e1 c0 c1 c2) (fun r μ' hr => ?_)
        obtain ⟨rfl, hr⟩ := hr
        refine j_forget (ls' := [.ref 112, .int x1, .null]) ⟨Or.inr rfl, Or.inr rfl, Or.inl rfl, trivial⟩ ?_
        exact k1 c0 c1 c2 μ' hr
      · skip
        refine j_iconst 0 dX12_gate_32 rfl (by decide) ?_
        exact j_zret dX12_gate_33 rfl (by decide) (k2 c0 c1 c2)
    · skip
      refine j_iconst 1 dX12_gate_23 rfl (by decide) ?_
      refine j_goto 28 dX12_gate_24 (by decide) ?_
      refine j_iload_n dX12_gate_28 rfl rfl ?_
      refine j_icmp_ne 34 dX12_gate_29 rfl (by decide) (fun c3 => ?_) (fun c3 => ?_)
      · skip
        refine j_aload_n dX12_gate_34 rfl rfl ?_
        refine j_cV (as := []) (rest := []) dX12_gate_35 rfl vw_X12_430 (hG 112 (17, 80) rfl) rfl ⟨Nat.le_of_ble_eq_true rfl, Nat.le_of_ble_eq_true rfl⟩ rfl rfl (fun _ _ => Nat.le_of_ble_eq_true rfl) (e3 c0 c1 c3) (fun r μ' hr => ?_)
        obtain ⟨rfl, hr⟩ := hr
        refine j_forget (ls' := [.ref 112, .int x1, .null]) ⟨Or.inr rfl, Or.inr rfl, Or.inl rfl, trivial⟩ ?_
        exact k3 c0 c1 c3 μ' hr
      · skip
        refine j_iconst 0 dX12_gate_32 rfl (by decide) ?_
        exact j_zret dX12_gate_33 rfl (by decide) (k4 c0 c1 c3)
theorem b_X12_gate_38 {l : Launch} {G : jG} {μ : jM} {φ : Int32 → jM → Prop} {x1 : Int32} {ψ0 : jM → Prop} (hG : gMM G) (hP : gNN μ) 
    (e0 : jC0 l mX12_keeps 1 G [.ref 112] (wI μ 152 64 ((μ.1 152 64) ^^^ (1 <<< (x1 &&& 31)))) (pV ψ0)) 
    (k0 : ∀ μ', ψ0 μ' → J l mX12_gate (jZ0 2 G (pI φ)) G 0 0 55 [.null, .null, .null] [] μ') :
    J l mX12_gate (jZ0 2 G (pI φ)) G 0 0 38 [.ref 112, .int x1, .null] [] μ := by
  refine j_aload_n dX12_gate_38 rfl rfl ?_
  refine j_getR (ci := 12) (N := 80) (f := 57) (T := TX12) 152 dX12_gate_39 rfl (hG 112 (17, 80) rfl) rfl (by decide) fl_X12_137 rfl (hP 112 57 152 rfl) ?_
  refine j_bipush 64 dX12_gate_42 rfl (by decide) ?_
  refine j_dup2 dX12_gate_44 rfl (fun _ _ => rfl) (fun _ _ => rfl) ?_
  refine j_iald' (j := 64) dX12_gate_45 rfl (hG 152 (0, 68) rfl) (vpK (by decide)) (by decide) ?_
  refine j_iconst 1 dX12_gate_46 rfl (by decide) ?_
  refine j_iload_n dX12_gate_47 rfl rfl ?_
  refine j_ishl dX12_gate_48 rfl ?_
  refine j_ixor dX12_gate_49 rfl ?_
  refine j_iast' (j := 64) dX12_gate_50 rfl (hG 152 (0, 68) rfl) (vpK (by decide)) (by decide) ?_
  refine j_aload_n dX12_gate_51 rfl rfl ?_
  refine j_cV (as := []) (rest := []) dX12_gate_52 rfl vw_X12_439 (hG 112 (17, 80) rfl) rfl ⟨Nat.le_of_ble_eq_true rfl, Nat.le_of_ble_eq_true rfl⟩ rfl rfl (fun _ _ => Nat.le_of_ble_eq_true rfl) (e0 ) (fun r μ' hr => ?_)
  obtain ⟨rfl, hr⟩ := hr
  refine j_forget (ls' := [.null, .null, .null]) ⟨Or.inl rfl, Or.inl rfl, Or.inr rfl, trivial⟩ ?_
  exact k0  μ' hr
theorem b_X12_gate_55 {l : Launch} {G : jG} {μ : jM} {φ : Int32 → jM → Prop} (hG : gMM G) (hP : gNN μ) 
    (k0 : φ 1 μ) :
    J l mX12_gate (jZ0 2 G (pI φ)) G 0 0 55 [.null, .null, .null] [] μ := by
  refine j_iconst 1 dX12_gate_55 rfl (by decide) ?_
  exact j_zret dX12_gate_56 rfl (by decide) (k0 )
theorem b_X12_rate_0 {l : Launch} {G : jG} {μ : jM} {φ : Int32 → jM → Prop} {x1 : Int32} {ψ0 : Int32 → jM → Prop} (hG : gMM G) (hP : gNN μ) 
    (e0 : jC0 l mX12_in 0 G [.int x1, .int 0, .int 9] μ (pI ψ0)) 
    (k0 : ∀ v μ', ψ0 v μ' → J l mX12_rate (jZ0 2 G (pI φ)) G 0 0 7 [.ref 112, .int x1] [.int v] μ') :
    J l mX12_rate (jZ0 2 G (pI φ)) G 0 0 0 [.ref 112, .int x1] [] μ := by
  refine j_iload_n dX12_rate_0 rfl rfl ?_
  refine j_iconst 0 dX12_rate_1 rfl (by decide) ?_
  refine j_bipush 9 dX12_rate_2 rfl (by decide) ?_
  refine j_cS (as := [.int x1, .int 0, .int 9]) (rest := []) dX12_rate_4 rfl vw_X12_349 ⟨Nat.le_of_ble_eq_true rfl, Nat.le_of_ble_eq_true rfl⟩ rfl rfl (fun _ _ => Nat.le_of_ble_eq_true rfl) (e0 ) (fun r μ' hr => ?_)
  obtain ⟨v, rfl, hr⟩ := hr
  exact k0  v μ' hr
theorem b_X12_rate_7 {l : Launch} {G : jG} {μ : jM} {φ : Int32 → jM → Prop} {x1 z0 : Int32} {ψ1 : jM → Prop} (hG : gMM G) (hP : gNN μ) 
    (k0 : (z0 = (0 : Int32)) → φ 0 μ) 
    (e1 : (¬ (z0 = (0 : Int32))) → (¬ (μ.1 151 65) = (x1 : Int32)) → jC0 l mX12_copies 1 G [.ref 112] μ (pV ψ1)) 
    (k1 : (¬ (z0 = (0 : Int32))) → (¬ (μ.1 151 65) = (x1 : Int32)) → ∀ μ', ψ1 μ' → J l mX12_rate (jZ0 2 G (pI φ)) G 0 0 27 [.ref 112, .int x1] [] μ') 
    (k2 : (¬ (z0 = (0 : Int32))) → ((μ.1 151 65) = (x1 : Int32)) → φ 0 μ) :
    J l mX12_rate (jZ0 2 G (pI φ)) G 0 0 7 [.ref 112, .int x1] [.int z0] μ := by
  refine j_if_eq 21 dX12_rate_7 rfl (by decide) (fun c0 => ?_) (fun c0 => ?_)
  · skip
    refine j_iconst 0 dX12_rate_21 rfl (by decide) ?_
    exact j_zret dX12_rate_22 rfl (by decide) (k0 c0)
  · skip
    refine j_aload_n dX12_rate_10 rfl rfl ?_
    refine j_getR (ci := 12) (N := 80) (f := 56) (T := TX12) 151 dX12_rate_11 rfl (hG 112 (17, 80) rfl) rfl (by decide) fl_X12_134 rfl (hP 112 56 151 rfl) ?_
    refine j_bipush 65 dX12_rate_14 rfl (by decide) ?_
    refine j_iald' (j := 65) dX12_rate_16 rfl (hG 151 (0, 68) rfl) (vpK (by decide)) (by decide) ?_
    refine j_iload_n dX12_rate_17 rfl rfl ?_
    refine j_icmp_ne 23 dX12_rate_18 rfl (by decide) (fun c1 => ?_) (fun c1 => ?_)
    · skip
      refine j_aload_n dX12_rate_23 rfl rfl ?_
      refine j_cV (as := []) (rest := []) dX12_rate_24 rfl vw_X12_430 (hG 112 (17, 80) rfl) rfl ⟨Nat.le_of_ble_eq_true rfl, Nat.le_of_ble_eq_true rfl⟩ rfl rfl (fun _ _ => Nat.le_of_ble_eq_true rfl) (e1 c0 c1) (fun r μ' hr => ?_)
      obtain ⟨rfl, hr⟩ := hr
      exact k1 c0 c1 μ' hr
    · skip
      refine j_iconst 0 dX12_rate_21 rfl (by decide) ?_
      exact j_zret dX12_rate_22 rfl (by decide) (k2 c0 c1)
theorem b_X12_rate_27 {l : Launch} {G : jG} {μ : jM} {φ : Int32 → jM → Prop} {x1 : Int32} {ψ0 : jM → Prop} (hG : gMM G) (hP : gNN μ) 
    (e0 : jC0 l mX12_keeps 1 G [.ref 112] (wI μ 152 65 x1) (pV ψ0)) 
    (k0 : ∀ μ', ψ0 μ' → J l mX12_rate (jZ0 2 G (pI φ)) G 0 0 39 [.null, .null] [] μ') :
    J l mX12_rate (jZ0 2 G (pI φ)) G 0 0 27 [.ref 112, .int x1] [] μ := by
  refine j_aload_n dX12_rate_27 rfl rfl ?_
  refine j_getR (ci := 12) (N := 80) (f := 57) (T := TX12) 152 dX12_rate_28 rfl (hG 112 (17, 80) rfl) rfl (by decide) fl_X12_137 rfl (hP 112 57 152 rfl) ?_
  refine j_bipush 65 dX12_rate_31 rfl (by decide) ?_
  refine j_iload_n dX12_rate_33 rfl rfl ?_
  refine j_iast' (j := 65) dX12_rate_34 rfl (hG 152 (0, 68) rfl) (vpK (by decide)) (by decide) ?_
  refine j_aload_n dX12_rate_35 rfl rfl ?_
  refine j_cV (as := []) (rest := []) dX12_rate_36 rfl vw_X12_439 (hG 112 (17, 80) rfl) rfl ⟨Nat.le_of_ble_eq_true rfl, Nat.le_of_ble_eq_true rfl⟩ rfl rfl (fun _ _ => Nat.le_of_ble_eq_true rfl) (e0 ) (fun r μ' hr => ?_)
  obtain ⟨rfl, hr⟩ := hr
  refine j_forget (ls' := [.null, .null]) ⟨Or.inl rfl, Or.inl rfl, trivial⟩ ?_
  exact k0  μ' hr
theorem b_X12_rate_39 {l : Launch} {G : jG} {μ : jM} {φ : Int32 → jM → Prop} (hG : gMM G) (hP : gNN μ) 
    (k0 : φ 1 μ) :
    J l mX12_rate (jZ0 2 G (pI φ)) G 0 0 39 [.null, .null] [] μ := by
  refine j_iconst 1 dX12_rate_39 rfl (by decide) ?_
  exact j_zret dX12_rate_40 rfl (by decide) (k0 )
theorem b_X12_mend_0 {l : Launch} {G : jG} {μ : jM} {φ : Int32 → jM → Prop} {x1 : Int32} {ψ0 : Int32 → jM → Prop} (hG : gMM G) (hP : gNN μ) 
    (e0 : jC0 l mX12_isRoad 1 G [.ref 112, .int x1] μ (pI ψ0)) 
    (k0 : ∀ v μ', ψ0 v μ' → J l mX12_mend (jZ0 2 G (pI φ)) G 0 0 5 [.ref 112, .int x1] [.int v] μ') :
    J l mX12_mend (jZ0 2 G (pI φ)) G 0 0 0 [.ref 112, .int x1] [] μ := by
  refine j_aload_n dX12_mend_0 rfl rfl ?_
  refine j_iload_n dX12_mend_1 rfl rfl ?_
  refine j_cV (as := [.int x1]) (rest := []) dX12_mend_2 rfl vw_X12_427 (hG 112 (17, 80) rfl) rfl ⟨Nat.le_of_ble_eq_true rfl, Nat.le_of_ble_eq_true rfl⟩ rfl rfl (fun _ _ => Nat.le_of_ble_eq_true rfl) (e0 ) (fun r μ' hr => ?_)
  obtain ⟨v, rfl, hr⟩ := hr
  exact k0  v μ' hr
theorem b_X12_mend_5 {l : Launch} {G : jG} {μ : jM} {φ : Int32 → jM → Prop} {x1 z0 : Int32} {ψ1 : jM → Prop} (hG : gMM G) (hP : gNN μ) 
    (o0 : (¬ z0 = (0 : Int32)) → vp_in x1 68) 
    (k0 : (¬ z0 = (0 : Int32)) → ((μ.1 151 (Int32.toNatClampNeg x1)) = (0 : Int32)) → φ (-2) μ) 
    (e1 : (¬ z0 = (0 : Int32)) → (¬ ((μ.1 151 (Int32.toNatClampNeg x1)) = (0 : Int32))) → ((μ.1 151 (Int32.toNatClampNeg x1)) ≤ ((μ.1 151 66) : Int32)) → jC0 l mX12_copies 1 G [.ref 112] μ (pV ψ1)) 
    (k1 : (¬ z0 = (0 : Int32)) → (¬ ((μ.1 151 (Int32.toNatClampNeg x1)) = (0 : Int32))) → ((μ.1 151 (Int32.toNatClampNeg x1)) ≤ ((μ.1 151 66) : Int32)) → ∀ μ', ψ1 μ' → J l mX12_mend (jZ0 2 G (pI φ)) G 0 0 42 [.ref 112, .int x1] [] μ') 
    (k2 : (¬ z0 = (0 : Int32)) → (¬ ((μ.1 151 (Int32.toNatClampNeg x1)) = (0 : Int32))) → (¬ ((μ.1 151 (Int32.toNatClampNeg x1)) ≤ ((μ.1 151 66) : Int32))) → φ (-2) μ) 
    (k3 : (z0 = (0 : Int32)) → φ (-1) μ) :
    J l mX12_mend (jZ0 2 G (pI φ)) G 0 0 5 [.ref 112, .int x1] [.int z0] μ := by
  refine j_if_ne 10 dX12_mend_5 rfl (by decide) (fun c0 => ?_) (fun c0 => ?_)
  · skip
    refine j_aload_n dX12_mend_10 rfl rfl ?_
    refine j_getR (ci := 12) (N := 80) (f := 56) (T := TX12) 151 dX12_mend_11 rfl (hG 112 (17, 80) rfl) rfl (by decide) fl_X12_134 rfl (hP 112 56 151 rfl) ?_
    refine j_iload_n dX12_mend_14 rfl rfl ?_
    refine j_iald' (j := (Int32.toNatClampNeg x1)) dX12_mend_15 rfl (hG 151 (0, 68) rfl) (o0 c0) rfl ?_
    refine j_if_eq 35 dX12_mend_16 rfl (by decide) (fun c1 => ?_) (fun c1 => ?_)
    · skip
      refine j_bipush (-2) dX12_mend_35 rfl (by decide) ?_
      exact j_iret dX12_mend_37 rfl (k0 c0 c1)
    · skip
      refine j_aload_n dX12_mend_19 rfl rfl ?_
      refine j_getR (ci := 12) (N := 80) (f := 56) (T := TX12) 151 dX12_mend_20 rfl (hG 112 (17, 80) rfl) rfl (by decide) fl_X12_134 rfl (hP 112 56 151 rfl) ?_
      refine j_iload_n dX12_mend_23 rfl rfl ?_
      refine j_iald' (j := (Int32.toNatClampNeg x1)) dX12_mend_24 rfl (hG 151 (0, 68) rfl) (o0 c0) rfl ?_
      refine j_aload_n dX12_mend_25 rfl rfl ?_
      refine j_getR (ci := 12) (N := 80) (f := 56) (T := TX12) 151 dX12_mend_26 rfl (hG 112 (17, 80) rfl) rfl (by decide) fl_X12_134 rfl (hP 112 56 151 rfl) ?_
      refine j_bipush 66 dX12_mend_29 rfl (by decide) ?_
      refine j_iald' (j := 66) dX12_mend_31 rfl (hG 151 (0, 68) rfl) (vpK (by decide)) (by decide) ?_
      refine j_icmp_le 38 dX12_mend_32 rfl (by decide) (fun c2 => ?_) (fun c2 => ?_)
      · skip
        refine j_aload_n dX12_mend_38 rfl rfl ?_
        refine j_cV (as := []) (rest := []) dX12_mend_39 rfl vw_X12_430 (hG 112 (17, 80) rfl) rfl ⟨Nat.le_of_ble_eq_true rfl, Nat.le_of_ble_eq_true rfl⟩ rfl rfl (fun _ _ => Nat.le_of_ble_eq_true rfl) (e1 c0 c1 c2) (fun r μ' hr => ?_)
        obtain ⟨rfl, hr⟩ := hr
        exact k1 c0 c1 c2 μ' hr
      · skip
        refine j_bipush (-2) dX12_mend_35 rfl (by decide) ?_
        exact j_iret dX12_mend_37 rfl (k2 c0 c1 c2)
  · skip
    refine j_iconst (-1) dX12_mend_8 rfl (by decide) ?_
    exact j_iret dX12_mend_9 rfl (k3 c0)
theorem b_X12_mend_42 {l : Launch} {G : jG} {μ : jM} {φ : Int32 → jM → Prop} {x1 : Int32} {ψ0 : jM → Prop} (hG : gMM G) (hP : gNN μ) 
    (o0 : vp_in x1 68) 
    (e0 : jC0 l mX12_keeps 1 G [.ref 112] (wI (wI μ 152 66 ((μ.1 152 66) - (μ.1 152 (Int32.toNatClampNeg x1)))) 152 (Int32.toNatClampNeg x1) 0) (pV ψ0)) 
    (k0 : ∀ μ', ψ0 μ' → J l mX12_mend (jZ0 2 G (pI φ)) G 0 0 69 [.ref 112, .null] [] μ') :
    J l mX12_mend (jZ0 2 G (pI φ)) G 0 0 42 [.ref 112, .int x1] [] μ := by
  refine j_aload_n dX12_mend_42 rfl rfl ?_
  refine j_getR (ci := 12) (N := 80) (f := 57) (T := TX12) 152 dX12_mend_43 rfl (hG 112 (17, 80) rfl) rfl (by decide) fl_X12_137 rfl (hP 112 57 152 rfl) ?_
  refine j_bipush 66 dX12_mend_46 rfl (by decide) ?_
  refine j_dup2 dX12_mend_48 rfl (fun _ _ => rfl) (fun _ _ => rfl) ?_
  refine j_iald' (j := 66) dX12_mend_49 rfl (hG 152 (0, 68) rfl) (vpK (by decide)) (by decide) ?_
  refine j_aload_n dX12_mend_50 rfl rfl ?_
  refine j_getR (ci := 12) (N := 80) (f := 57) (T := TX12) 152 dX12_mend_51 rfl (hG 112 (17, 80) rfl) rfl (by decide) fl_X12_137 rfl (hP 112 57 152 rfl) ?_
  refine j_iload_n dX12_mend_54 rfl rfl ?_
  refine j_iald' (j := (Int32.toNatClampNeg x1)) dX12_mend_55 rfl (hG 152 (0, 68) rfl) o0 rfl ?_
  refine j_isub dX12_mend_56 rfl ?_
  refine j_iast' (j := 66) dX12_mend_57 rfl (hG 152 (0, 68) rfl) (vpK (by decide)) (by decide) ?_
  refine j_aload_n dX12_mend_58 rfl rfl ?_
  refine j_getR (ci := 12) (N := 80) (f := 57) (T := TX12) 152 dX12_mend_59 rfl (hG 112 (17, 80) rfl) rfl (by decide) fl_X12_137 rfl (hP 112 57 152 rfl) ?_
  refine j_iload_n dX12_mend_62 rfl rfl ?_
  refine j_iconst 0 dX12_mend_63 rfl (by decide) ?_
  refine j_iast' (j := (Int32.toNatClampNeg x1)) dX12_mend_64 rfl (hG 152 (0, 68) rfl) o0 rfl ?_
  refine j_aload_n dX12_mend_65 rfl rfl ?_
  refine j_cV (as := []) (rest := []) dX12_mend_66 rfl vw_X12_439 (hG 112 (17, 80) rfl) rfl ⟨Nat.le_of_ble_eq_true rfl, Nat.le_of_ble_eq_true rfl⟩ rfl rfl (fun _ _ => Nat.le_of_ble_eq_true rfl) (e0 ) (fun r μ' hr => ?_)
  obtain ⟨rfl, hr⟩ := hr
  refine j_forget (ls' := [.ref 112, .null]) ⟨Or.inr rfl, Or.inl rfl, trivial⟩ ?_
  exact k0  μ' hr
theorem b_X12_mend_69 {l : Launch} {G : jG} {μ : jM} {φ : Int32 → jM → Prop} (hG : gMM G) (hP : gNN μ) 
    (k0 : φ (μ.1 151 66) μ) :
    J l mX12_mend (jZ0 2 G (pI φ)) G 0 0 69 [.ref 112, .null] [] μ := by
  refine j_aload_n dX12_mend_69 rfl rfl ?_
  refine j_getR (ci := 12) (N := 80) (f := 56) (T := TX12) 151 dX12_mend_70 rfl (hG 112 (17, 80) rfl) rfl (by decide) fl_X12_134 rfl (hP 112 56 151 rfl) ?_
  refine j_bipush 66 dX12_mend_73 rfl (by decide) ?_
  refine j_iald' (j := 66) dX12_mend_75 rfl (hG 151 (0, 68) rfl) (vpK (by decide)) (by decide) ?_
  exact j_iret dX12_mend_76 rfl (k0 )
theorem b_X12_nights_0 {l : Launch} {G : jG} {μ : jM} {φ : Int32 → jM → Prop} {x1 : Int32} {ψ0 : Int32 → jM → Prop} (hG : gMM G) (hP : gNN μ) 
    (e0 : jC0 l mX12_in 0 G [.int x1, .int 0, .int 30] μ (pI ψ0)) 
    (k0 : ∀ v μ', ψ0 v μ' → J l mX12_nights (jZ0 9 G (pI φ)) G 0 0 7 [.ref 112, .int x1] [.int v] μ') :
    J l mX12_nights (jZ0 9 G (pI φ)) G 0 0 0 [.ref 112, .int x1] [] μ := by
  refine j_iload_n dX12_nights_0 rfl rfl ?_
  refine j_iconst 0 dX12_nights_1 rfl (by decide) ?_
  refine j_bipush 30 dX12_nights_2 rfl (by decide) ?_
  refine j_cS (as := [.int x1, .int 0, .int 30]) (rest := []) dX12_nights_4 rfl vw_X12_349 ⟨Nat.le_of_ble_eq_true rfl, Nat.le_of_ble_eq_true rfl⟩ rfl rfl (fun _ _ => Nat.le_of_ble_eq_true rfl) (e0 ) (fun r μ' hr => ?_)
  obtain ⟨v, rfl, hr⟩ := hr
  exact k0  v μ' hr
theorem b_X12_nights_7 {l : Launch} {G : jG} {μ : jM} {φ : Int32 → jM → Prop} {x1 z0 : Int32} {ψ0 : jM → Prop} (hG : gMM G) (hP : gNN μ) 
    (e0 : (¬ z0 = (0 : Int32)) → (¬ x1 = (0 : Int32)) → jC0 l mX12_copies 1 G [.ref 112] μ (pV ψ0)) 
    (k0 : (¬ z0 = (0 : Int32)) → (¬ x1 = (0 : Int32)) → ∀ μ', ψ0 μ' → J l mX12_nights (jZ0 9 G (pI φ)) G 0 0 28 [.ref 112, .int x1] [] μ') 
    (k1 : (¬ z0 = (0 : Int32)) → (x1 = (0 : Int32)) → φ (μ.1 151 67) μ) 
    (k2 : (z0 = (0 : Int32)) → φ (-1) μ) :
    J l mX12_nights (jZ0 9 G (pI φ)) G 0 0 7 [.ref 112, .int x1] [.int z0] μ := by
  refine j_if_ne 12 dX12_nights_7 rfl (by decide) (fun c0 => ?_) (fun c0 => ?_)
  · skip
    refine j_iload_n dX12_nights_12 rfl rfl ?_
    refine j_if_ne 24 dX12_nights_13 rfl (by decide) (fun c1 => ?_) (fun c1 => ?_)
    · skip
      refine j_aload_n dX12_nights_24 rfl rfl ?_
      refine j_cV (as := []) (rest := []) dX12_nights_25 rfl vw_X12_430 (hG 112 (17, 80) rfl) rfl ⟨Nat.le_of_ble_eq_true rfl, Nat.le_of_ble_eq_true rfl⟩ rfl rfl (fun _ _ => Nat.le_of_ble_eq_true rfl) (e0 c0 c1) (fun r μ' hr => ?_)
      obtain ⟨rfl, hr⟩ := hr
      exact k0 c0 c1 μ' hr
    · skip
      refine j_aload_n dX12_nights_16 rfl rfl ?_
      refine j_getR (ci := 12) (N := 80) (f := 56) (T := TX12) 151 dX12_nights_17 rfl (hG 112 (17, 80) rfl) rfl (by decide) fl_X12_134 rfl (hP 112 56 151 rfl) ?_
      refine j_bipush 67 dX12_nights_20 rfl (by decide) ?_
      refine j_iald' (j := 67) dX12_nights_22 rfl (hG 151 (0, 68) rfl) (vpK (by decide)) (by decide) ?_
      exact j_iret dX12_nights_23 rfl (k1 c0 c1)
  · skip
    refine j_iconst (-1) dX12_nights_10 rfl (by decide) ?_
    exact j_iret dX12_nights_11 rfl (k2 c0)
theorem b_X12_nights_28 {l : Launch} {G : jG} {μ : jM} {φ : Int32 → jM → Prop} {x1 : Int32} {ψ0 : jM → Prop} (hG : gMM G) (hP : gNN μ) 
    (e0 : jC0 l mX12_goes 8 G [.ref 112, .int x1] μ (pV ψ0)) 
    (k0 : ∀ μ', ψ0 μ' → J l mX12_nights (jZ0 9 G (pI φ)) G 0 0 33 [.ref 112, .null] [] μ') :
    J l mX12_nights (jZ0 9 G (pI φ)) G 0 0 28 [.ref 112, .int x1] [] μ := by
  refine j_aload_n dX12_nights_28 rfl rfl ?_
  refine j_iload_n dX12_nights_29 rfl rfl ?_
  refine j_cV (as := [.int x1]) (rest := []) dX12_nights_30 rfl vw_X12_442 (hG 112 (17, 80) rfl) rfl ⟨Nat.le_of_ble_eq_true rfl, Nat.le_of_ble_eq_true rfl⟩ rfl rfl (fun _ _ => Nat.le_of_ble_eq_true rfl) (e0 ) (fun r μ' hr => ?_)
  obtain ⟨rfl, hr⟩ := hr
  refine j_forget (ls' := [.ref 112, .null]) ⟨Or.inr rfl, Or.inl rfl, trivial⟩ ?_
  exact k0  μ' hr
theorem b_X12_nights_33 {l : Launch} {G : jG} {μ : jM} {φ : Int32 → jM → Prop} {ψ0 : jM → Prop} (hG : gMM G) (hP : gNN μ) 
    (e0 : jC0 l mX12_keeps 1 G [.ref 112] μ (pV ψ0)) 
    (k0 : ∀ μ', ψ0 μ' → J l mX12_nights (jZ0 9 G (pI φ)) G 0 0 37 [.ref 112, .null] [] μ') :
    J l mX12_nights (jZ0 9 G (pI φ)) G 0 0 33 [.ref 112, .null] [] μ := by
  refine j_aload_n dX12_nights_33 rfl rfl ?_
  refine j_cV (as := []) (rest := []) dX12_nights_34 rfl vw_X12_439 (hG 112 (17, 80) rfl) rfl ⟨Nat.le_of_ble_eq_true rfl, Nat.le_of_ble_eq_true rfl⟩ rfl rfl (fun _ _ => Nat.le_of_ble_eq_true rfl) (e0 ) (fun r μ' hr => ?_)
  obtain ⟨rfl, hr⟩ := hr
  exact k0  μ' hr
theorem b_X12_nights_37 {l : Launch} {G : jG} {μ : jM} {φ : Int32 → jM → Prop} (hG : gMM G) (hP : gNN μ) 
    (k0 : φ (μ.1 151 67) μ) :
    J l mX12_nights (jZ0 9 G (pI φ)) G 0 0 37 [.ref 112, .null] [] μ := by
  refine j_aload_n dX12_nights_37 rfl rfl ?_
  refine j_getR (ci := 12) (N := 80) (f := 56) (T := TX12) 151 dX12_nights_38 rfl (hG 112 (17, 80) rfl) rfl (by decide) fl_X12_134 rfl (hP 112 56 151 rfl) ?_
  refine j_bipush 67 dX12_nights_41 rfl (by decide) ?_
  refine j_iald' (j := 67) dX12_nights_43 rfl (hG 151 (0, 68) rfl) (vpK (by decide)) (by decide) ?_
  exact j_iret dX12_nights_44 rfl (k0 )
