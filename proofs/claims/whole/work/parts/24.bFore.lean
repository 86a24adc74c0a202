theorem b_X0_clear_0 {l : Launch} {G : jG} {μ : jM} {φ : jM → Prop} (hG : gGG G) (hP : gPP μ) 
    (k0 : φ (wI (wI μ 63 0 0) 63 6 0)) :
    J l mX0_clear (jZ0 0 G (pV φ)) G 0 0 0 [.ref 63] [] μ := by
  refine j_aload_n dX0_clear_0 rfl rfl ?_
  refine j_iconst 0 dX0_clear_1 rfl (by decide) ?_
  refine j_putI (ci := 0) (N := 10) (f := 0) (T := TX0) dX0_clear_2 rfl (hG 63 (5, 10) rfl) rfl (by decide) fl_X0_35 rfl rfl ?_
  refine j_aload_n dX0_clear_5 rfl rfl ?_
  refine j_iconst 0 dX0_clear_6 rfl (by decide) ?_
  refine j_putI (ci := 0) (N := 10) (f := 6) (T := TX0) dX0_clear_7 rfl (hG 63 (5, 10) rfl) rfl (by decide) fl_X0_39 rfl rfl ?_
  exact j_vret dX0_clear_10 rfl (k0 )
theorem b_X0_add_0 {l : Launch} {G : jG} {μ : jM} {φ : Int32 → jM → Prop} {x1 x2 x3 : Int32} (hG : gGG G) (hP : gPP μ) 
    (o0 : ((μ.1 63 0) < (20 : Int32)) → vp_in (μ.1 63 0) 20) 
    (k0 : ((μ.1 63 0) < (20 : Int32)) → (x3 = (0 : Int32)) → φ (((μ.1 63 0) + 1) - 1) (wI (wI (wI (wI μ 66 (Int32.toNatClampNeg (μ.1 63 0)) x1) 67 (Int32.toNatClampNeg (μ.1 63 0)) x2) 68 (Int32.toNatClampNeg (μ.1 63 0)) 0) 63 0 ((μ.1 63 0) + 1))) 
    (k1 : ((μ.1 63 0) < (20 : Int32)) → (¬ (x3 = (0 : Int32))) → φ (((μ.1 63 0) + 1) - 1) (wI (wI (wI (wI μ 66 (Int32.toNatClampNeg (μ.1 63 0)) x1) 67 (Int32.toNatClampNeg (μ.1 63 0)) x2) 68 (Int32.toNatClampNeg (μ.1 63 0)) 1) 63 0 ((μ.1 63 0) + 1))) 
    (k2 : (¬ ((μ.1 63 0) < (20 : Int32))) → φ (-1) μ) :
    J l mX0_add (jZ0 0 G (pI φ)) G 0 0 0 [.ref 63, .int x1, .int x2, .int x3] [] μ := by
  refine j_aload_n dX0_add_0 rfl rfl ?_
  refine j_getI (ci := 0) (N := 10) (f := 0) (T := TX0) dX0_add_1 rfl (hG 63 (5, 10) rfl) rfl (by decide) fl_X0_35 rfl ?_
  refine j_bipush 20 dX0_add_4 rfl (by decide) ?_
  refine j_icmp_lt 11 dX0_add_6 rfl (by decide) (fun c0 => ?_) (fun c0 => ?_)
  · skip
    refine j_aload_n dX0_add_11 rfl rfl ?_
    refine j_getR (ci := 0) (N := 10) (f := 3) (T := TX0) 66 dX0_add_12 rfl (hG 63 (5, 10) rfl) rfl (by decide) fl_X0_18 rfl (hP 63 3 66 rfl) ?_
    refine j_aload_n dX0_add_15 rfl rfl ?_
    refine j_getI (ci := 0) (N := 10) (f := 0) (T := TX0) dX0_add_16 rfl (hG 63 (5, 10) rfl) rfl (by decide) fl_X0_35 rfl ?_
    refine j_iload_n dX0_add_19 rfl rfl ?_
    refine j_iast' (j := (Int32.toNatClampNeg (μ.1 63 0))) dX0_add_20 rfl (hG 66 (0, 20) rfl) (o0 c0) rfl ?_
    refine j_aload_n dX0_add_21 rfl rfl ?_
    refine j_getR (ci := 0) (N := 10) (f := 4) (T := TX0) 67 dX0_add_22 rfl (hG 63 (5, 10) rfl) rfl (by decide) fl_X0_22 rfl (hP 63 4 67 rfl) ?_
    refine j_aload_n dX0_add_25 rfl rfl ?_
    refine j_getI (ci := 0) (N := 10) (f := 0) (T := TX0) dX0_add_26 rfl (hG 63 (5, 10) rfl) rfl (by decide) fl_X0_35 rfl ?_
    refine j_iload_n dX0_add_29 rfl rfl ?_
    refine j_iast' (j := (Int32.toNatClampNeg (μ.1 63 0))) dX0_add_30 rfl (hG 67 (0, 20) rfl) (o0 c0) rfl ?_
    refine j_aload_n dX0_add_31 rfl rfl ?_
    refine j_getR (ci := 0) (N := 10) (f := 5) (T := TX0) 68 dX0_add_32 rfl (hG 63 (5, 10) rfl) rfl (by decide) fl_X0_25 rfl (hP 63 5 68 rfl) ?_
    refine j_aload_n dX0_add_35 rfl rfl ?_
    refine j_getI (ci := 0) (N := 10) (f := 0) (T := TX0) dX0_add_36 rfl (hG 63 (5, 10) rfl) rfl (by decide) fl_X0_35 rfl ?_
    refine j_iload_n dX0_add_39 rfl rfl ?_
    refine j_if_eq 47 dX0_add_40 rfl (by decide) (fun c1 => ?_) (fun c1 => ?_)
    · skip
      refine j_iconst 0 dX0_add_47 rfl (by decide) ?_
      refine j_iast' (j := (Int32.toNatClampNeg (μ.1 63 0))) dX0_add_48 rfl (hG 68 (0, 20) rfl) (o0 c0) rfl ?_
      refine j_aload_n dX0_add_49 rfl rfl ?_
      refine j_dup dX0_add_50 rfl (fun _ _ => rfl) ?_
      refine j_getI (ci := 0) (N := 10) (f := 0) (T := TX0) dX0_add_51 rfl (hG 63 (5, 10) rfl) rfl (by decide) fl_X0_35 rfl ?_
      refine j_iconst 1 dX0_add_54 rfl (by decide) ?_
      refine j_iadd dX0_add_55 rfl ?_
      refine j_putI (ci := 0) (N := 10) (f := 0) (T := TX0) dX0_add_56 rfl (hG 63 (5, 10) rfl) rfl (by decide) fl_X0_35 rfl rfl ?_
      refine j_aload_n dX0_add_59 rfl rfl ?_
      refine j_getI (ci := 0) (N := 10) (f := 0) (T := TX0) dX0_add_60 rfl (hG 63 (5, 10) rfl) rfl (by decide) fl_X0_35 rfl ?_
      refine j_iconst 1 dX0_add_63 rfl (by decide) ?_
      refine j_isub dX0_add_64 rfl ?_
      exact j_iret dX0_add_65 rfl (k0 c0 c1)
    · skip
      refine j_iconst 1 dX0_add_43 rfl (by decide) ?_
      refine j_goto 48 dX0_add_44 (by decide) ?_
      refine j_iast' (j := (Int32.toNatClampNeg (μ.1 63 0))) dX0_add_48 rfl (hG 68 (0, 20) rfl) (o0 c0) rfl ?_
      refine j_aload_n dX0_add_49 rfl rfl ?_
      refine j_dup dX0_add_50 rfl (fun _ _ => rfl) ?_
      refine j_getI (ci := 0) (N := 10) (f := 0) (T := TX0) dX0_add_51 rfl (hG 63 (5, 10) rfl) rfl (by decide) fl_X0_35 rfl ?_
      refine j_iconst 1 dX0_add_54 rfl (by decide) ?_
      refine j_iadd dX0_add_55 rfl ?_
      refine j_putI (ci := 0) (N := 10) (f := 0) (T := TX0) dX0_add_56 rfl (hG 63 (5, 10) rfl) rfl (by decide) fl_X0_35 rfl rfl ?_
      refine j_aload_n dX0_add_59 rfl rfl ?_
      refine j_getI (ci := 0) (N := 10) (f := 0) (T := TX0) dX0_add_60 rfl (hG 63 (5, 10) rfl) rfl (by decide) fl_X0_35 rfl ?_
      refine j_iconst 1 dX0_add_63 rfl (by decide) ?_
      refine j_isub dX0_add_64 rfl ?_
      exact j_iret dX0_add_65 rfl (k1 c0 c1)
  · skip
    refine j_iconst (-1) dX0_add_9 rfl (by decide) ?_
    exact j_iret dX0_add_10 rfl (k2 c0)
theorem b_X0_pickSet_0 {l : Launch} {G : jG} {μ : jM} {φ : Int32 → jM → Prop} {x1 x2 : Int32} {t : Nat} (hG : gGG G) (hP : gPP μ) (ht : tO gTold pTold G μ t) (q12_0 : μ.2.2 12 0 = some t) 
    (k0 : J l mX0_pickSet (jZ0 1 G (pI φ)) G 0 0 19 [.ref 63, .int x1, .int x2, .int 0, .int (1 <<< ((μ.1 t 2) &&& 31)), .int 0] [] μ) :
    J l mX0_pickSet (jZ0 1 G (pI φ)) G 0 0 0 [.ref 63, .int x1, .int x2, .null, .null, .null] [] μ := by
  refine j_iconst 0 dX0_pickSet_0 rfl (by decide) ?_
  refine j_istore_n (ls' := [.ref 63, .int x1, .int x2, .int 0, .null, .null]) dX0_pickSet_1 rfl rfl (Nat.le_of_ble_eq_true rfl) rfl ?_
  refine j_iconst 1 dX0_pickSet_2 rfl (by decide) ?_
  refine j_aload_n dX0_pickSet_3 rfl rfl ?_
  refine j_getR (ci := 0) (N := 10) (f := 1) (T := TX0) 12 dX0_pickSet_4 rfl (hG 63 (5, 10) rfl) rfl (by decide) fl_X0_31 rfl (hP 63 1 12 rfl) ?_
  refine j_getR (ci := 10) (N := 11) (f := 0) (T := TX10) t dX0_pickSet_7 rfl (hG 12 (15, 11) rfl) rfl (by decide) fl_X0_42 rfl q12_0 ?_
  refine j_getI (ci := 8) (N := 20) (f := 2) (T := TX8) dX0_pickSet_10 rfl (ht.1 0 (13, 20) rfl) rfl (by decide) fl_X0_48 rfl ?_
  refine j_ishl dX0_pickSet_13 rfl ?_
  refine j_istore (ls' := [.ref 63, .int x1, .int x2, .int 0, .int (1 <<< ((μ.1 t 2) &&& 31)), .null]) dX0_pickSet_14 rfl (Nat.le_of_ble_eq_true rfl) rfl ?_
  refine j_iconst 0 dX0_pickSet_16 rfl (by decide) ?_
  refine j_istore (ls' := [.ref 63, .int x1, .int x2, .int 0, .int (1 <<< ((μ.1 t 2) &&& 31)), .int 0]) dX0_pickSet_17 rfl (Nat.le_of_ble_eq_true rfl) rfl ?_
  exact k0 
theorem b_X0_pickSet_19 {l : Launch} {G : jG} {μ : jM} {φ : Int32 → jM → Prop} {x1 x2 x3 x4 x5 : Int32} {ψ2 : Int32 → jM → Prop} (hG : gGG G) (hP : gPP μ) 
    (k0 : (x4 ≤ (x5 : Int32)) → (¬ x2 = ((-1) : Int32)) → φ (-1) μ) 
    (k1 : (x4 ≤ (x5 : Int32)) → (x2 = ((-1) : Int32)) → φ x3 μ) 
    (e2 : (¬ (x4 ≤ (x5 : Int32))) → jC0 l mX0_mayBe 0 G [.ref 63, .int x5, .int x1] μ (pI ψ2)) 
    (k2 : (¬ (x4 ≤ (x5 : Int32))) → ∀ v μ', ψ2 v μ' → J l mX0_pickSet (jZ0 1 G (pI φ)) G 0 0 33 [.ref 63, .int x1, .int x2, .int x3, .int x4, .int x5] [.int v] μ') :
    J l mX0_pickSet (jZ0 1 G (pI φ)) G 0 0 19 [.ref 63, .int x1, .int x2, .int x3, .int x4, .int x5] [] μ := by
  refine j_iload dX0_pickSet_19 rfl rfl ?_
  refine j_iload dX0_pickSet_21 rfl rfl ?_
  refine j_icmp_ge 53 dX0_pickSet_23 rfl (by decide) (fun c0 => ?_) (fun c0 => ?_)
  · skip
    refine j_iload_n dX0_pickSet_53 rfl rfl ?_
    refine j_iconst (-1) dX0_pickSet_54 rfl (by decide) ?_
    refine j_icmp_ne 62 dX0_pickSet_55 rfl (by decide) (fun c1 => ?_) (fun c1 => ?_)
    · skip
      refine j_iconst (-1) dX0_pickSet_62 rfl (by decide) ?_
      exact j_iret dX0_pickSet_63 rfl (k0 c0 c1)
    · skip
      refine j_iload_n dX0_pickSet_58 rfl rfl ?_
      refine j_goto 63 dX0_pickSet_59 (by decide) ?_
      exact j_iret dX0_pickSet_63 rfl (k1 c0 c1)
  · skip
    refine j_aload_n dX0_pickSet_26 rfl rfl ?_
    refine j_iload dX0_pickSet_27 rfl rfl ?_
    refine j_iload_n dX0_pickSet_29 rfl rfl ?_
    refine j_cV (as := [.int x5, .int x1]) (rest := []) dX0_pickSet_30 rfl vw_X0_53 (hG 63 (5, 10) rfl) rfl ⟨Nat.le_of_ble_eq_true rfl, Nat.le_of_ble_eq_true rfl⟩ rfl rfl (fun _ _ => Nat.le_of_ble_eq_true rfl) (e2 c0) (fun r μ' hr => ?_)
    obtain ⟨v, rfl, hr⟩ := hr
    exact k2 c0 v μ' hr
theorem b_X0_pickSet_33 {l : Launch} {G : jG} {μ : jM} {φ : Int32 → jM → Prop} {x1 x2 x3 x4 x5 z0 : Int32} (hG : gGG G) (hP : gPP μ) 
    (k0 : (z0 = (0 : Int32)) → J l mX0_pickSet (jZ0 1 G (pI φ)) G 0 0 19 [.ref 63, .int x1, .int x2, .int x3, .int x4, .int (x5 + 1)] [] μ) 
    (k1 : (¬ (z0 = (0 : Int32))) → (¬ x3 = (x2 : Int32)) → J l mX0_pickSet (jZ0 1 G (pI φ)) G 0 0 19 [.ref 63, .int x1, .int x2, .int (x3 + 1), .int x4, .int (x5 + 1)] [] μ) 
    (k2 : (¬ (z0 = (0 : Int32))) → (x3 = (x2 : Int32)) → φ x5 μ) :
    J l mX0_pickSet (jZ0 1 G (pI φ)) G 0 0 33 [.ref 63, .int x1, .int x2, .int x3, .int x4, .int x5] [.int z0] μ := by
  refine j_if_eq 47 dX0_pickSet_33 rfl (by decide) (fun c0 => ?_) (fun c0 => ?_)
  · skip
    refine j_iinc (x5 + 1) (ls' := [.ref 63, .int x1, .int x2, .int x3, .int x4, .int (x5 + 1)]) dX0_pickSet_47 rfl rfl rfl (Nat.le_of_ble_eq_true rfl) rfl ?_
    refine j_goto 19 dX0_pickSet_50 (by decide) ?_
    exact k0 c0
  · skip
    refine j_iload_n dX0_pickSet_36 rfl rfl ?_
    refine j_iload_n dX0_pickSet_37 rfl rfl ?_
    refine j_icmp_ne 44 dX0_pickSet_38 rfl (by decide) (fun c1 => ?_) (fun c1 => ?_)
    · skip
      refine j_iinc (x3 + 1) (ls' := [.ref 63, .int x1, .int x2, .int (x3 + 1), .int x4, .int x5]) dX0_pickSet_44 rfl rfl rfl (Nat.le_of_ble_eq_true rfl) rfl ?_
      refine j_iinc (x5 + 1) (ls' := [.ref 63, .int x1, .int x2, .int (x3 + 1), .int x4, .int (x5 + 1)]) dX0_pickSet_47 rfl rfl rfl (Nat.le_of_ble_eq_true rfl) rfl ?_
      refine j_goto 19 dX0_pickSet_50 (by decide) ?_
      exact k1 c0 c1
    · skip
      refine j_iload dX0_pickSet_41 rfl rfl ?_
      exact j_iret dX0_pickSet_43 rfl (k2 c0 c1)
theorem b_X0_roadToWatch_0 {l : Launch} {G : jG} {μ : jM} {φ : Int32 → jM → Prop} {x1 x2 : Int32} {ψ0 : jM → Prop} (hG : gGG G) (hP : gPP μ) 
    (e0 : jC0 l mJA_fill_II 0 G [.ref 69, .int 0] μ (pV ψ0)) 
    (k0 : ∀ μ', ψ0 μ' → J l mX0_roadToWatch (jZ0 2 G (pI φ)) G 0 0 8 [.ref 63, .int x1, .int x2, .null, .null, .null, .null] [] μ') :
    J l mX0_roadToWatch (jZ0 2 G (pI φ)) G 0 0 0 [.ref 63, .int x1, .int x2, .null, .null, .null, .null] [] μ := by
  refine j_aload_n dX0_roadToWatch_0 rfl rfl ?_
  refine j_getR (ci := 0) (N := 10) (f := 9) (T := TX0) 69 dX0_roadToWatch_1 rfl (hG 63 (5, 10) rfl) rfl (by decide) fl_X0_28 rfl (hP 63 9 69 rfl) ?_
  refine j_iconst 0 dX0_roadToWatch_4 rfl (by decide) ?_
  refine j_cS (as := [.ref 69, .int 0]) (rest := []) dX0_roadToWatch_5 rfl vw_X0_57 ⟨Nat.le_of_ble_eq_true rfl, Nat.le_of_ble_eq_true rfl⟩ rfl rfl (fun _ _ => Nat.le_of_ble_eq_true rfl) (e0 ) (fun r μ' hr => ?_)
  obtain ⟨rfl, hr⟩ := hr
  exact k0  μ' hr
theorem b_X0_roadToWatch_8 {l : Launch} {G : jG} {μ : jM} {φ : Int32 → jM → Prop} {x1 x2 : Int32} {t : Nat} (hG : gGG G) (hP : gPP μ) (ht : tO gTold pTold G μ t) (q12_0 : μ.2.2 12 0 = some t) 
    (k0 : J l mX0_roadToWatch (jZ0 2 G (pI φ)) G 0 0 27 [.ref 63, .int x1, .int x2, .int 0, .int (1 <<< ((μ.1 t 2) &&& 31)), .int 0, .null] [] μ) :
    J l mX0_roadToWatch (jZ0 2 G (pI φ)) G 0 0 8 [.ref 63, .int x1, .int x2, .null, .null, .null, .null] [] μ := by
  refine j_iconst 0 dX0_roadToWatch_8 rfl (by decide) ?_
  refine j_istore_n (ls' := [.ref 63, .int x1, .int x2, .int 0, .null, .null, .null]) dX0_roadToWatch_9 rfl rfl (Nat.le_of_ble_eq_true rfl) rfl ?_
  refine j_iconst 1 dX0_roadToWatch_10 rfl (by decide) ?_
  refine j_aload_n dX0_roadToWatch_11 rfl rfl ?_
  refine j_getR (ci := 0) (N := 10) (f := 1) (T := TX0) 12 dX0_roadToWatch_12 rfl (hG 63 (5, 10) rfl) rfl (by decide) fl_X0_31 rfl (hP 63 1 12 rfl) ?_
  refine j_getR (ci := 10) (N := 11) (f := 0) (T := TX10) t dX0_roadToWatch_15 rfl (hG 12 (15, 11) rfl) rfl (by decide) fl_X0_42 rfl q12_0 ?_
  refine j_getI (ci := 8) (N := 20) (f := 2) (T := TX8) dX0_roadToWatch_18 rfl (ht.1 0 (13, 20) rfl) rfl (by decide) fl_X0_48 rfl ?_
  refine j_ishl dX0_roadToWatch_21 rfl ?_
  refine j_istore (ls' := [.ref 63, .int x1, .int x2, .int 0, .int (1 <<< ((μ.1 t 2) &&& 31)), .null, .null]) dX0_roadToWatch_22 rfl (Nat.le_of_ble_eq_true rfl) rfl ?_
  refine j_iconst 0 dX0_roadToWatch_24 rfl (by decide) ?_
  refine j_istore (ls' := [.ref 63, .int x1, .int x2, .int 0, .int (1 <<< ((μ.1 t 2) &&& 31)), .int 0, .null]) dX0_roadToWatch_25 rfl (Nat.le_of_ble_eq_true rfl) rfl ?_
  exact k0 
theorem b_X0_roadToWatch_27 {l : Launch} {G : jG} {μ : jM} {φ : Int32 → jM → Prop} {x1 x2 x3 x4 x5 : Int32} {ψ0 : Int32 → jM → Prop} {ψ1 : Int32 → jM → Prop} (hG : gGG G) (hP : gPP μ) 
    (e0 : (x4 ≤ (x5 : Int32)) → jC0 l mX0_roadThatLeavesFewest 1 G [.ref 63, .int x3] μ (pI ψ0)) 
    (k0 : (x4 ≤ (x5 : Int32)) → ∀ v μ', ψ0 v μ' → J l mX0_roadToWatch (jZ0 2 G (pI φ)) G 0 0 110 [.null, .null, .null, .null, .null, .null, .null] [.int v] μ') 
    (e1 : (¬ (x4 ≤ (x5 : Int32))) → jC0 l mX0_mayBe 0 G [.ref 63, .int x5, .int x1] μ (pI ψ1)) 
    (k1 : (¬ (x4 ≤ (x5 : Int32))) → ∀ v μ', ψ1 v μ' → J l mX0_roadToWatch (jZ0 2 G (pI φ)) G 0 0 41 [.ref 63, .int x1, .int x2, .int x3, .int x4, .int x5, .null] [.int v] μ') :
    J l mX0_roadToWatch (jZ0 2 G (pI φ)) G 0 0 27 [.ref 63, .int x1, .int x2, .int x3, .int x4, .int x5, .null] [] μ := by
  refine j_iload dX0_roadToWatch_27 rfl rfl ?_
  refine j_iload dX0_roadToWatch_29 rfl rfl ?_
  refine j_icmp_ge 105 dX0_roadToWatch_31 rfl (by decide) (fun c0 => ?_) (fun c0 => ?_)
  · skip
    refine j_aload_n dX0_roadToWatch_105 rfl rfl ?_
    refine j_iload_n dX0_roadToWatch_106 rfl rfl ?_
    refine j_cV (as := [.int x3]) (rest := []) dX0_roadToWatch_107 rfl vw_X0_68 (hG 63 (5, 10) rfl) rfl ⟨Nat.le_of_ble_eq_true rfl, Nat.le_of_ble_eq_true rfl⟩ rfl rfl (fun _ _ => Nat.le_of_ble_eq_true rfl) (e0 c0) (fun r μ' hr => ?_)
    obtain ⟨v, rfl, hr⟩ := hr
    refine j_forget (ls' := [.null, .null, .null, .null, .null, .null, .null]) ⟨Or.inl rfl, Or.inl rfl, Or.inl rfl, Or.inl rfl, Or.inl rfl, Or.inl rfl, Or.inr rfl, trivial⟩ ?_
    exact k0 c0 v μ' hr
  · skip
    refine j_aload_n dX0_roadToWatch_34 rfl rfl ?_
    refine j_iload dX0_roadToWatch_35 rfl rfl ?_
    refine j_iload_n dX0_roadToWatch_37 rfl rfl ?_
    refine j_cV (as := [.int x5, .int x1]) (rest := []) dX0_roadToWatch_38 rfl vw_X0_53 (hG 63 (5, 10) rfl) rfl ⟨Nat.le_of_ble_eq_true rfl, Nat.le_of_ble_eq_true rfl⟩ rfl rfl (fun _ _ => Nat.le_of_ble_eq_true rfl) (e1 c0) (fun r μ' hr => ?_)
    obtain ⟨v, rfl, hr⟩ := hr
    exact k1 c0 v μ' hr
theorem b_X0_roadToWatch_41 {l : Launch} {G : jG} {μ : jM} {φ : Int32 → jM → Prop} {x1 x2 x3 x4 x5 z0 : Int32} (hG : gGG G) (hP : gPP μ) 
    (k0 : (z0 = (0 : Int32)) → J l mX0_roadToWatch (jZ0 2 G (pI φ)) G 0 0 27 [.ref 63, .int x1, .int x2, .int x3, .int x4, .int (x5 + 1), .null] [] μ) 
    (k1 : (¬ (z0 = (0 : Int32))) → J l mX0_roadToWatch (jZ0 2 G (pI φ)) G 0 0 50 [.ref 63, .int x1, .int x2, .int (x3 + 1), .int x4, .int x5, .int 0] [] μ) :
    J l mX0_roadToWatch (jZ0 2 G (pI φ)) G 0 0 41 [.ref 63, .int x1, .int x2, .int x3, .int x4, .int x5, .null] [.int z0] μ := by
  refine j_if_eq 99 dX0_roadToWatch_41 rfl (by decide) (fun c0 => ?_) (fun c0 => ?_)
  · skip
    refine j_iinc (x5 + 1) (ls' := [.ref 63, .int x1, .int x2, .int x3, .int x4, .int (x5 + 1), .null]) dX0_roadToWatch_99 rfl rfl rfl (Nat.le_of_ble_eq_true rfl) rfl ?_
    refine j_goto 27 dX0_roadToWatch_102 (by decide) ?_
    exact k0 c0
  · skip
    refine j_iinc (x3 + 1) (ls' := [.ref 63, .int x1, .int x2, .int (x3 + 1), .int x4, .int x5, .null]) dX0_roadToWatch_44 rfl rfl rfl (Nat.le_of_ble_eq_true rfl) rfl ?_
    refine j_iconst 0 dX0_roadToWatch_47 rfl (by decide) ?_
    refine j_istore (ls' := [.ref 63, .int x1, .int x2, .int (x3 + 1), .int x4, .int x5, .int 0]) dX0_roadToWatch_48 rfl (Nat.le_of_ble_eq_true rfl) rfl ?_
    exact k1 c0
theorem b_X0_roadToWatch_50 {l : Launch} {G : jG} {μ : jM} {φ : Int32 → jM → Prop} {x1 x2 x3 x4 x5 x6 : Int32} {so t : Nat} (hG : gGG G) (hP : gPP μ) (hgso : G[so]? = some (0, 3968)) (ht : tO gTold pTold G μ t) (q12_0 : μ.2.2 12 0 = some t) (q63_7 : μ.2.2 63 7 = some so) 
    (k0 : ((μ.1 t 1) ≤ (x6 : Int32)) → J l mX0_roadToWatch (jZ0 2 G (pI φ)) G 0 0 27 [.ref 63, .int x1, .int x2, .int x3, .int x4, .int (x5 + 1), .null] [] μ) 
    (o0 : (¬ ((μ.1 t 1) ≤ (x6 : Int32))) → vp_in x6 12) 
    (o1 : (¬ ((μ.1 t 1) ≤ (x6 : Int32))) → vp_in ((x2 * 128) + x5) 3968) 
    (k1 : (¬ ((μ.1 t 1) ≤ (x6 : Int32))) → J l mX0_roadToWatch (jZ0 2 G (pI φ)) G 0 0 50 [.ref 63, .int x1, .int x2, .int x3, .int x4, .int x5, .int (x6 + 1)] [] (wI μ 69 (Int32.toNatClampNeg x6) ((μ.1 69 (Int32.toNatClampNeg x6)) + (((μ.1 so (Int32.toNatClampNeg ((x2 * 128) + x5))) >>> (x6 &&& 31)) &&& 1)))) :
    J l mX0_roadToWatch (jZ0 2 G (pI φ)) G 0 0 50 [.ref 63, .int x1, .int x2, .int x3, .int x4, .int x5, .int x6] [] μ := by
  refine j_iload dX0_roadToWatch_50 rfl rfl ?_
  refine j_aload_n dX0_roadToWatch_52 rfl rfl ?_
  refine j_getR (ci := 0) (N := 10) (f := 1) (T := TX0) 12 dX0_roadToWatch_53 rfl (hG 63 (5, 10) rfl) rfl (by decide) fl_X0_31 rfl (hP 63 1 12 rfl) ?_
  refine j_getR (ci := 10) (N := 11) (f := 0) (T := TX10) t dX0_roadToWatch_56 rfl (hG 12 (15, 11) rfl) rfl (by decide) fl_X0_42 rfl q12_0 ?_
  refine j_getI (ci := 8) (N := 20) (f := 1) (T := TX8) dX0_roadToWatch_59 rfl (ht.1 0 (13, 20) rfl) rfl (by decide) fl_X0_63 rfl ?_
  refine j_icmp_ge 99 dX0_roadToWatch_62 rfl (by decide) (fun c0 => ?_) (fun c0 => ?_)
  · skip
    refine j_iinc (x5 + 1) (ls' := [.ref 63, .int x1, .int x2, .int x3, .int x4, .int (x5 + 1), .int x6]) dX0_roadToWatch_99 rfl rfl rfl (Nat.le_of_ble_eq_true rfl) rfl ?_
    refine j_goto 27 dX0_roadToWatch_102 (by decide) ?_
    refine j_forget (ls' := [.ref 63, .int x1, .int x2, .int x3, .int x4, .int (x5 + 1), .null]) ⟨Or.inr rfl, Or.inr rfl, Or.inr rfl, Or.inr rfl, Or.inr rfl, Or.inr rfl, Or.inl rfl, trivial⟩ ?_
    exact k0 c0
  · skip
    refine j_aload_n dX0_roadToWatch_65 rfl rfl ?_
    refine j_getR (ci := 0) (N := 10) (f := 9) (T := TX0) 69 dX0_roadToWatch_66 rfl (hG 63 (5, 10) rfl) rfl (by decide) fl_X0_28 rfl (hP 63 9 69 rfl) ?_
    refine j_iload dX0_roadToWatch_69 rfl rfl ?_
    refine j_dup2 dX0_roadToWatch_71 rfl (fun _ _ => rfl) (fun _ _ => rfl) ?_
    refine j_iald' (j := (Int32.toNatClampNeg x6)) dX0_roadToWatch_72 rfl (hG 69 (0, 12) rfl) (o0 c0) rfl ?_
    refine j_aload_n dX0_roadToWatch_73 rfl rfl ?_
    refine j_getR (ci := 0) (N := 10) (f := 7) (T := TX0) so dX0_roadToWatch_74 rfl (hG 63 (5, 10) rfl) rfl (by decide) fl_X0_65 rfl q63_7 ?_
    refine j_iload_n dX0_roadToWatch_77 rfl rfl ?_
    refine j_sipush 128 dX0_roadToWatch_78 rfl (by decide) ?_
    refine j_imul dX0_roadToWatch_81 rfl ?_
    refine j_iload dX0_roadToWatch_82 rfl rfl ?_
    refine j_iadd dX0_roadToWatch_84 rfl ?_
    refine j_iald' (j := (Int32.toNatClampNeg ((x2 * 128) + x5))) dX0_roadToWatch_85 rfl hgso (o1 c0) rfl ?_
    refine j_iload dX0_roadToWatch_86 rfl rfl ?_
    refine j_ishr dX0_roadToWatch_88 rfl ?_
    refine j_iconst 1 dX0_roadToWatch_89 rfl (by decide) ?_
    refine j_iand dX0_roadToWatch_90 rfl ?_
    refine j_iadd dX0_roadToWatch_91 rfl ?_
    refine j_iast' (j := (Int32.toNatClampNeg x6)) dX0_roadToWatch_92 rfl (hG 69 (0, 12) rfl) (o0 c0) rfl ?_
    refine j_iinc (x6 + 1) (ls' := [.ref 63, .int x1, .int x2, .int x3, .int x4, .int x5, .int (x6 + 1)]) dX0_roadToWatch_93 rfl rfl rfl (Nat.le_of_ble_eq_true rfl) rfl ?_
    refine j_goto 50 dX0_roadToWatch_96 (by decide) ?_
    exact k1 c0
theorem b_X0_roadToWatch_110 {l : Launch} {G : jG} {μ : jM} {φ : Int32 → jM → Prop} {z0 : Int32} (hG : gGG G) (hP : gPP μ) 
    (k0 : φ z0 μ) :
    J l mX0_roadToWatch (jZ0 2 G (pI φ)) G 0 0 110 [.null, .null, .null, .null, .null, .null, .null] [.int z0] μ := by
  exact j_iret dX0_roadToWatch_110 rfl (k0 )
theorem b_X0_roadThatLeavesFewest_0 {l : Launch} {G : jG} {μ : jM} {φ : Int32 → jM → Prop} {x1 : Int32} (hG : gGG G) (hP : gPP μ) 
    (k0 : J l mX0_roadThatLeavesFewest (jZ0 1 G (pI φ)) G 0 0 10 [.ref 63, .int x1, .int 129, .int (-2), .int 0, .null] [] μ) :
    J l mX0_roadThatLeavesFewest (jZ0 1 G (pI φ)) G 0 0 0 [.ref 63, .int x1, .null, .null, .null, .null] [] μ := by
  refine j_sipush 129 dX0_roadThatLeavesFewest_0 rfl (by decide) ?_
  refine j_istore_n (ls' := [.ref 63, .int x1, .int 129, .null, .null, .null]) dX0_roadThatLeavesFewest_3 rfl rfl (Nat.le_of_ble_eq_true rfl) rfl ?_
  refine j_bipush (-2) dX0_roadThatLeavesFewest_4 rfl (by decide) ?_
  refine j_istore_n (ls' := [.ref 63, .int x1, .int 129, .int (-2), .null, .null]) dX0_roadThatLeavesFewest_6 rfl rfl (Nat.le_of_ble_eq_true rfl) rfl ?_
  refine j_iconst 0 dX0_roadThatLeavesFewest_7 rfl (by decide) ?_
  refine j_istore (ls' := [.ref 63, .int x1, .int 129, .int (-2), .int 0, .null]) dX0_roadThatLeavesFewest_8 rfl (Nat.le_of_ble_eq_true rfl) rfl ?_
  exact k0 
theorem b_X0_roadThatLeavesFewest_10 {l : Launch} {G : jG} {μ : jM} {φ : Int32 → jM → Prop} {x1 x2 x3 x4 : Int32} {t : Nat} (hG : gGG G) (hP : gPP μ) (ht : tO gTold pTold G μ t) (q12_0 : μ.2.2 12 0 = some t) 
    (k0 : ((μ.1 t 1) ≤ (x4 : Int32)) → φ x3 μ) 
    (o0 : (¬ ((μ.1 t 1) ≤ (x4 : Int32))) → vp_in x4 12) 
    (k1 : (¬ ((μ.1 t 1) ≤ (x4 : Int32))) → ((((μ.1 t 6) >>> (x4 &&& 31)) &&& 1) = (0 : Int32)) → J l mX0_roadThatLeavesFewest (jZ0 1 G (pI φ)) G 0 0 10 [.ref 63, .int x1, .int x2, .int x3, .int (x4 + 1), .null] [] μ) 
    (k2 : (¬ ((μ.1 t 1) ≤ (x4 : Int32))) → (¬ ((((μ.1 t 6) >>> (x4 &&& 31)) &&& 1) = (0 : Int32))) → (x2 ≤ ((if (μ.1 69 (Int32.toNatClampNeg x4)) < (x1 - (μ.1 69 (Int32.toNatClampNeg x4))) then (x1 - (μ.1 69 (Int32.toNatClampNeg x4))) else (μ.1 69 (Int32.toNatClampNeg x4))) : Int32)) → J l mX0_roadThatLeavesFewest (jZ0 1 G (pI φ)) G 0 0 10 [.ref 63, .int x1, .int x2, .int x3, .int (x4 + 1), .null] [] μ) 
    (k3 : (¬ ((μ.1 t 1) ≤ (x4 : Int32))) → (¬ ((((μ.1 t 6) >>> (x4 &&& 31)) &&& 1) = (0 : Int32))) → (¬ (x2 ≤ ((if (μ.1 69 (Int32.toNatClampNeg x4)) < (x1 - (μ.1 69 (Int32.toNatClampNeg x4))) then (x1 - (μ.1 69 (Int32.toNatClampNeg x4))) else (μ.1 69 (Int32.toNatClampNeg x4))) : Int32))) → J l mX0_roadThatLeavesFewest (jZ0 1 G (pI φ)) G 0 0 10 [.ref 63, .int x1, .int (if (μ.1 69 (Int32.toNatClampNeg x4)) < (x1 - (μ.1 69 (Int32.toNatClampNeg x4))) then (x1 - (μ.1 69 (Int32.toNatClampNeg x4))) else (μ.1 69 (Int32.toNatClampNeg x4))), .int x4, .int (x4 + 1), .null] [] μ) :
    J l mX0_roadThatLeavesFewest (jZ0 1 G (pI φ)) G 0 0 10 [.ref 63, .int x1, .int x2, .int x3, .int x4, .null] [] μ := by
  refine j_iload dX0_roadThatLeavesFewest_10 rfl rfl ?_
  refine j_aload_n dX0_roadThatLeavesFewest_12 rfl rfl ?_
  refine j_getR (ci := 0) (N := 10) (f := 1) (T := TX0) 12 dX0_roadThatLeavesFewest_13 rfl (hG 63 (5, 10) rfl) rfl (by decide) fl_X0_31 rfl (hP 63 1 12 rfl) ?_
  refine j_getR (ci := 10) (N := 11) (f := 0) (T := TX10) t dX0_roadThatLeavesFewest_16 rfl (hG 12 (15, 11) rfl) rfl (by decide) fl_X0_42 rfl q12_0 ?_
  refine j_getI (ci := 8) (N := 20) (f := 1) (T := TX8) dX0_roadThatLeavesFewest_19 rfl (ht.1 0 (13, 20) rfl) rfl (by decide) fl_X0_63 rfl ?_
  refine j_icmp_ge 82 dX0_roadThatLeavesFewest_22 rfl (by decide) (fun c0 => ?_) (fun c0 => ?_)
  · skip
    refine j_iload_n dX0_roadThatLeavesFewest_82 rfl rfl ?_
    exact j_iret dX0_roadThatLeavesFewest_83 rfl (k0 c0)
  · skip
    refine j_aload_n dX0_roadThatLeavesFewest_25 rfl rfl ?_
    refine j_getR (ci := 0) (N := 10) (f := 9) (T := TX0) 69 dX0_roadThatLeavesFewest_26 rfl (hG 63 (5, 10) rfl) rfl (by decide) fl_X0_28 rfl (hP 63 9 69 rfl) ?_
    refine j_iload dX0_roadThatLeavesFewest_29 rfl rfl ?_
    refine j_iald' (j := (Int32.toNatClampNeg x4)) dX0_roadThatLeavesFewest_31 rfl (hG 69 (0, 12) rfl) (o0 c0) rfl ?_
    refine j_iload_n dX0_roadThatLeavesFewest_32 rfl rfl ?_
    refine j_aload_n dX0_roadThatLeavesFewest_33 rfl rfl ?_
    refine j_getR (ci := 0) (N := 10) (f := 9) (T := TX0) 69 dX0_roadThatLeavesFewest_34 rfl (hG 63 (5, 10) rfl) rfl (by decide) fl_X0_28 rfl (hP 63 9 69 rfl) ?_
    refine j_iload dX0_roadThatLeavesFewest_37 rfl rfl ?_
    refine j_iald' (j := (Int32.toNatClampNeg x4)) dX0_roadThatLeavesFewest_39 rfl (hG 69 (0, 12) rfl) (o0 c0) rfl ?_
    refine j_isub dX0_roadThatLeavesFewest_40 rfl ?_
    refine j_max dX0_roadThatLeavesFewest_41 rfl vw_X0_72 ⟨Nat.le_of_ble_eq_true rfl, fun _ _ => Nat.le_of_ble_eq_true rfl⟩ ?_
    refine j_istore (ls' := [.ref 63, .int x1, .int x2, .int x3, .int x4, .int (if (μ.1 69 (Int32.toNatClampNeg x4)) < (x1 - (μ.1 69 (Int32.toNatClampNeg x4))) then (x1 - (μ.1 69 (Int32.toNatClampNeg x4))) else (μ.1 69 (Int32.toNatClampNeg x4)))]) dX0_roadThatLeavesFewest_44 rfl (Nat.le_of_ble_eq_true rfl) rfl ?_
    refine j_aload_n dX0_roadThatLeavesFewest_46 rfl rfl ?_
    refine j_getR (ci := 0) (N := 10) (f := 1) (T := TX0) 12 dX0_roadThatLeavesFewest_47 rfl (hG 63 (5, 10) rfl) rfl (by decide) fl_X0_31 rfl (hP 63 1 12 rfl) ?_
    refine j_getR (ci := 10) (N := 11) (f := 0) (T := TX10) t dX0_roadThatLeavesFewest_50 rfl (hG 12 (15, 11) rfl) rfl (by decide) fl_X0_42 rfl q12_0 ?_
    refine j_getI (ci := 8) (N := 20) (f := 6) (T := TX8) dX0_roadThatLeavesFewest_53 rfl (ht.1 0 (13, 20) rfl) rfl (by decide) fl_X0_78 rfl ?_
    refine j_iload dX0_roadThatLeavesFewest_56 rfl rfl ?_
    refine j_ishr dX0_roadThatLeavesFewest_58 rfl ?_
    refine j_iconst 1 dX0_roadThatLeavesFewest_59 rfl (by decide) ?_
    refine j_iand dX0_roadThatLeavesFewest_60 rfl ?_
    refine j_if_eq 76 dX0_roadThatLeavesFewest_61 rfl (by decide) (fun c1 => ?_) (fun c1 => ?_)
    · skip
      refine j_iinc (x4 + 1) (ls' := [.ref 63, .int x1, .int x2, .int x3, .int (x4 + 1), .int (if (μ.1 69 (Int32.toNatClampNeg x4)) < (x1 - (μ.1 69 (Int32.toNatClampNeg x4))) then (x1 - (μ.1 69 (Int32.toNatClampNeg x4))) else (μ.1 69 (Int32.toNatClampNeg x4)))]) dX0_roadThatLeavesFewest_76 rfl rfl rfl (Nat.le_of_ble_eq_true rfl) rfl ?_
      refine j_goto 10 dX0_roadThatLeavesFewest_79 (by decide) ?_
      refine j_forget (ls' := [.ref 63, .int x1, .int x2, .int x3, .int (x4 + 1), .null]) ⟨Or.inr rfl, Or.inr rfl, Or.inr rfl, Or.inr rfl, Or.inr rfl, Or.inl rfl, trivial⟩ ?_
      exact k1 c0 c1
    · skip
      refine j_iload dX0_roadThatLeavesFewest_64 rfl rfl ?_
      refine j_iload_n dX0_roadThatLeavesFewest_66 rfl rfl ?_
      refine j_icmp_ge 76 dX0_roadThatLeavesFewest_67 rfl (by decide) (fun c2 => ?_) (fun c2 => ?_)
      · skip
        refine j_iinc (x4 + 1) (ls' := [.ref 63, .int x1, .int x2, .int x3, .int (x4 + 1), .int (if (μ.1 69 (Int32.toNatClampNeg x4)) < (x1 - (μ.1 69 (Int32.toNatClampNeg x4))) then (x1 - (μ.1 69 (Int32.toNatClampNeg x4))) else (μ.1 69 (Int32.toNatClampNeg x4)))]) dX0_roadThatLeavesFewest_76 rfl rfl rfl (Nat.le_of_ble_eq_true rfl) rfl ?_
        refine j_goto 10 dX0_roadThatLeavesFewest_79 (by decide) ?_
        refine j_forget (ls' := [.ref 63, .int x1, .int x2, .int x3, .int (x4 + 1), .null]) ⟨Or.inr rfl, Or.inr rfl, Or.inr rfl, Or.inr rfl, Or.inr rfl, Or.inl rfl, trivial⟩ ?_
        exact k2 c0 c1 c2
      · skip
        refine j_iload dX0_roadThatLeavesFewest_70 rfl rfl ?_
        refine j_istore_n (ls' := [.ref 63, .int x1, .int (if (μ.1 69 (Int32.toNatClampNeg x4)) < (x1 - (μ.1 69 (Int32.toNatClampNeg x4))) then (x1 - (μ.1 69 (Int32.toNatClampNeg x4))) else (μ.1 69 (Int32.toNatClampNeg x4))), .int x3, .int x4, .int (if (μ.1 69 (Int32.toNatClampNeg x4)) < (x1 - (μ.1 69 (Int32.toNatClampNeg x4))) then (x1 - (μ.1 69 (Int32.toNatClampNeg x4))) else (μ.1 69 (Int32.toNatClampNeg x4)))]) dX0_roadThatLeavesFewest_72 rfl rfl (Nat.le_of_ble_eq_true rfl) rfl ?_
        refine j_iload dX0_roadThatLeavesFewest_73 rfl rfl ?_
        refine j_istore_n (ls' := [.ref 63, .int x1, .int (if (μ.1 69 (Int32.toNatClampNeg x4)) < (x1 - (μ.1 69 (Int32.toNatClampNeg x4))) then (x1 - (μ.1 69 (Int32.toNatClampNeg x4))) else (μ.1 69 (Int32.toNatClampNeg x4))), .int x4, .int x4, .int (if (μ.1 69 (Int32.toNatClampNeg x4)) < (x1 - (μ.1 69 (Int32.toNatClampNeg x4))) then (x1 - (μ.1 69 (Int32.toNatClampNeg x4))) else (μ.1 69 (Int32.toNatClampNeg x4)))]) dX0_roadThatLeavesFewest_75 rfl rfl (Nat.le_of_ble_eq_true rfl) rfl ?_
        refine j_iinc (x4 + 1) (ls' := [.ref 63, .int x1, .int (if (μ.1 69 (Int32.toNatClampNeg x4)) < (x1 - (μ.1 69 (Int32.toNatClampNeg x4))) then (x1 - (μ.1 69 (Int32.toNatClampNeg x4))) else (μ.1 69 (Int32.toNatClampNeg x4))), .int x4, .int (x4 + 1), .int (if (μ.1 69 (Int32.toNatClampNeg x4)) < (x1 - (μ.1 69 (Int32.toNatClampNeg x4))) then (x1 - (μ.1 69 (Int32.toNatClampNeg x4))) else (μ.1 69 (Int32.toNatClampNeg x4)))]) dX0_roadThatLeavesFewest_76 rfl rfl rfl (Nat.le_of_ble_eq_true rfl) rfl ?_
        refine j_goto 10 dX0_roadThatLeavesFewest_79 (by decide) ?_
        refine j_forget (ls' := [.ref 63, .int x1, .int (if (μ.1 69 (Int32.toNatClampNeg x4)) < (x1 - (μ.1 69 (Int32.toNatClampNeg x4))) then (x1 - (μ.1 69 (Int32.toNatClampNeg x4))) else (μ.1 69 (Int32.toNatClampNeg x4))), .int x4, .int (x4 + 1), .null]) ⟨Or.inr rfl, Or.inr rfl, Or.inr rfl, Or.inr rfl, Or.inr rfl, Or.inl rfl, trivial⟩ ?_
        exact k3 c0 c1 c2
theorem b_X0_mayBe_0 {l : Launch} {G : jG} {μ : jM} {φ : Int32 → jM → Prop} {x1 x2 : Int32} (hG : gGG G) (hP : gPP μ) 
    (k0 : J l mX0_mayBe (jZ0 0 G (pI φ)) G 0 0 2 [.ref 63, .int x1, .int x2, .int 0] [] μ) :
    J l mX0_mayBe (jZ0 0 G (pI φ)) G 0 0 0 [.ref 63, .int x1, .int x2, .null] [] μ := by
  refine j_iconst 0 dX0_mayBe_0 rfl (by decide) ?_
  refine j_istore_n (ls' := [.ref 63, .int x1, .int x2, .int 0]) dX0_mayBe_1 rfl rfl (Nat.le_of_ble_eq_true rfl) rfl ?_
  exact k0 
theorem b_X0_mayBe_2 {l : Launch} {G : jG} {μ : jM} {φ : Int32 → jM → Prop} {x1 x2 x3 : Int32} {so : Nat} (hG : gGG G) (hP : gPP μ) (hgso : G[so]? = some (0, 3968)) (q63_7 : μ.2.2 63 7 = some so) 
    (k0 : (x2 ≤ (x3 : Int32)) → φ 1 μ) 
    (o0 : (¬ (x2 ≤ (x3 : Int32))) → vp_in x3 20) 
    (o1 : (¬ (x2 ≤ (x3 : Int32))) → vp_in (((μ.1 67 (Int32.toNatClampNeg x3)) * 128) + x1) 3968) 
    (k1 : (¬ (x2 ≤ (x3 : Int32))) → ((((μ.1 so (Int32.toNatClampNeg (((μ.1 67 (Int32.toNatClampNeg x3)) * 128) + x1))) >>> ((μ.1 66 (Int32.toNatClampNeg x3)) &&& 31)) &&& 1) = ((μ.1 68 (Int32.toNatClampNeg x3)) : Int32)) → J l mX0_mayBe (jZ0 0 G (pI φ)) G 0 0 2 [.ref 63, .int x1, .int x2, .int (x3 + 1)] [] μ) 
    (k2 : (¬ (x2 ≤ (x3 : Int32))) → (¬ ((((μ.1 so (Int32.toNatClampNeg (((μ.1 67 (Int32.toNatClampNeg x3)) * 128) + x1))) >>> ((μ.1 66 (Int32.toNatClampNeg x3)) &&& 31)) &&& 1) = ((μ.1 68 (Int32.toNatClampNeg x3)) : Int32))) → φ 0 μ) :
    J l mX0_mayBe (jZ0 0 G (pI φ)) G 0 0 2 [.ref 63, .int x1, .int x2, .int x3] [] μ := by
  refine j_iload_n dX0_mayBe_2 rfl rfl ?_
  refine j_iload_n dX0_mayBe_3 rfl rfl ?_
  refine j_icmp_ge 50 dX0_mayBe_4 rfl (by decide) (fun c0 => ?_) (fun c0 => ?_)
  · skip
    refine j_iconst 1 dX0_mayBe_50 rfl (by decide) ?_
    exact j_zret dX0_mayBe_51 rfl (by decide) (k0 c0)
  · skip
    refine j_aload_n dX0_mayBe_7 rfl rfl ?_
    refine j_getR (ci := 0) (N := 10) (f := 7) (T := TX0) so dX0_mayBe_8 rfl (hG 63 (5, 10) rfl) rfl (by decide) fl_X0_65 rfl q63_7 ?_
    refine j_aload_n dX0_mayBe_11 rfl rfl ?_
    refine j_getR (ci := 0) (N := 10) (f := 4) (T := TX0) 67 dX0_mayBe_12 rfl (hG 63 (5, 10) rfl) rfl (by decide) fl_X0_22 rfl (hP 63 4 67 rfl) ?_
    refine j_iload_n dX0_mayBe_15 rfl rfl ?_
    refine j_iald' (j := (Int32.toNatClampNeg x3)) dX0_mayBe_16 rfl (hG 67 (0, 20) rfl) (o0 c0) rfl ?_
    refine j_sipush 128 dX0_mayBe_17 rfl (by decide) ?_
    refine j_imul dX0_mayBe_20 rfl ?_
    refine j_iload_n dX0_mayBe_21 rfl rfl ?_
    refine j_iadd dX0_mayBe_22 rfl ?_
    refine j_iald' (j := (Int32.toNatClampNeg (((μ.1 67 (Int32.toNatClampNeg x3)) * 128) + x1))) dX0_mayBe_23 rfl hgso (o1 c0) rfl ?_
    refine j_aload_n dX0_mayBe_24 rfl rfl ?_
    refine j_getR (ci := 0) (N := 10) (f := 3) (T := TX0) 66 dX0_mayBe_25 rfl (hG 63 (5, 10) rfl) rfl (by decide) fl_X0_18 rfl (hP 63 3 66 rfl) ?_
    refine j_iload_n dX0_mayBe_28 rfl rfl ?_
    refine j_iald' (j := (Int32.toNatClampNeg x3)) dX0_mayBe_29 rfl (hG 66 (0, 20) rfl) (o0 c0) rfl ?_
    refine j_ishr dX0_mayBe_30 rfl ?_
    refine j_iconst 1 dX0_mayBe_31 rfl (by decide) ?_
    refine j_iand dX0_mayBe_32 rfl ?_
    refine j_aload_n dX0_mayBe_33 rfl rfl ?_
    refine j_getR (ci := 0) (N := 10) (f := 5) (T := TX0) 68 dX0_mayBe_34 rfl (hG 63 (5, 10) rfl) rfl (by decide) fl_X0_25 rfl (hP 63 5 68 rfl) ?_
    refine j_iload_n dX0_mayBe_37 rfl rfl ?_
    refine j_iald' (j := (Int32.toNatClampNeg x3)) dX0_mayBe_38 rfl (hG 68 (0, 20) rfl) (o0 c0) rfl ?_
    refine j_icmp_eq 44 dX0_mayBe_39 rfl (by decide) (fun c1 => ?_) (fun c1 => ?_)
    · skip
      refine j_iinc (x3 + 1) (ls' := [.ref 63, .int x1, .int x2, .int (x3 + 1)]) dX0_mayBe_44 rfl rfl rfl (Nat.le_of_ble_eq_true rfl) rfl ?_
      refine j_goto 2 dX0_mayBe_47 (by decide) ?_
      exact k1 c0 c1
    · skip
      refine j_iconst 0 dX0_mayBe_42 rfl (by decide) ?_
      exact j_zret dX0_mayBe_43 rfl (by decide) (k2 c0 c1)
theorem b_X0_learnSet_0 {l : Launch} {G : jG} {μ : jM} {φ : jM → Prop} {x1 x2 : Int32} {ψ0 : jM → Prop} {t : Nat} (hG : gGG G) (hP : gPP μ) (ht : tO gTold pTold G μ t) (q12_0 : μ.2.2 12 0 = some t) 
    (e0 : jC0 l mX5_begin 1 G [.ref 64, .ref t] μ (pV ψ0)) 
    (k0 : ∀ μ', ψ0 μ' → J l mX0_learnSet (jZ0 5 G (pV φ)) G 0 0 14 [.ref 63, .int x1, .int x2, .null] [] μ') :
    J l mX0_learnSet (jZ0 5 G (pV φ)) G 0 0 0 [.ref 63, .int x1, .int x2, .null] [] μ := by
  refine j_aload_n dX0_learnSet_0 rfl rfl ?_
  refine j_getR (ci := 0) (N := 10) (f := 2) (T := TX0) 64 dX0_learnSet_1 rfl (hG 63 (5, 10) rfl) rfl (by decide) fl_X0_12 rfl (hP 63 2 64 rfl) ?_
  refine j_aload_n dX0_learnSet_4 rfl rfl ?_
  refine j_getR (ci := 0) (N := 10) (f := 1) (T := TX0) 12 dX0_learnSet_5 rfl (hG 63 (5, 10) rfl) rfl (by decide) fl_X0_31 rfl (hP 63 1 12 rfl) ?_
  refine j_getR (ci := 10) (N := 11) (f := 0) (T := TX10) t dX0_learnSet_8 rfl (hG 12 (15, 11) rfl) rfl (by decide) fl_X0_42 rfl q12_0 ?_
  refine j_cV (as := [.ref t]) (rest := []) dX0_learnSet_11 rfl vw_X0_88 (hG 64 (10, 1) rfl) rfl ⟨Nat.le_of_ble_eq_true rfl, Nat.le_of_ble_eq_true rfl⟩ rfl rfl (fun _ _ => Nat.le_of_ble_eq_true rfl) (e0 ) (fun r μ' hr => ?_)
  obtain ⟨rfl, hr⟩ := hr
  exact k0  μ' hr
theorem b_X0_learnSet_14 {l : Launch} {G : jG} {μ : jM} {φ : jM → Prop} {x1 x2 : Int32} {ψ0 : jM → Prop} {ψ1 : jM → Prop} {wr : Nat} (hG : gGG G) (hP : gPP μ) (hgwr : G[wr]? = some (0, 1536)) (q63_8 : μ.2.2 63 8 = some wr) 
    (e0 : ((μ.1 63 6) ≤ (0 : Int32)) → jC0 l mX10_enter 3 G [.ref 12, .ref 64] (wI (wI μ 65 6 x1) 65 0 (μ.1 63 6)) (pV ψ0)) 
    (k0 : ((μ.1 63 6) ≤ (0 : Int32)) → ∀ μ', ψ0 μ' → J l mX0_learnSet (jZ0 5 G (pV φ)) G 0 0 78 [.ref 63, .int x1, .int x2, .null] [] μ') 
    (o0 : (¬ ((μ.1 63 6) ≤ (0 : Int32))) → ¬ (x1 * 12) < (0 : Int32)) 
    (o1 : (¬ ((μ.1 63 6) ≤ (0 : Int32))) → (Int32.toNatClampNeg (x1 * 12)) + (Int32.toNatClampNeg 12) ≤ 1536) 
    (e1 : (¬ ((μ.1 63 6) ≤ (0 : Int32))) → jC0 l mX10_enter 3 G [.ref 12, .ref 64] (sI (wI (wI μ 65 6 x1) 65 0 (μ.1 63 6)) 65 (va_cpy ((wI (wI μ 65 6 x1) 65 0 (μ.1 63 6)).1 wr) ((wI (wI μ 65 6 x1) 65 0 (μ.1 63 6)).1 65) (Int32.toNatClampNeg (x1 * 12)) (Int32.toNatClampNeg 7) (Int32.toNatClampNeg 12))) (pV ψ1)) 
    (k1 : (¬ ((μ.1 63 6) ≤ (0 : Int32))) → ∀ μ', ψ1 μ' → J l mX0_learnSet (jZ0 5 G (pV φ)) G 0 0 78 [.ref 63, .int x1, .int x2, .null] [] μ') :
    J l mX0_learnSet (jZ0 5 G (pV φ)) G 0 0 14 [.ref 63, .int x1, .int x2, .null] [] μ := by
  refine j_aload_n dX0_learnSet_14 rfl rfl ?_
  refine j_getR (ci := 0) (N := 10) (f := 2) (T := TX0) 64 dX0_learnSet_15 rfl (hG 63 (5, 10) rfl) rfl (by decide) fl_X0_12 rfl (hP 63 2 64 rfl) ?_
  refine j_getR (ci := 5) (N := 1) (f := 0) (T := TX5) 65 dX0_learnSet_18 rfl (hG 64 (10, 1) rfl) rfl (by decide) fl_X0_92 rfl (hP 64 0 65 rfl) ?_
  refine j_bipush 6 dX0_learnSet_21 rfl (by decide) ?_
  refine j_iload_n dX0_learnSet_23 rfl rfl ?_
  refine j_iast' (j := 6) dX0_learnSet_24 rfl (hG 65 (0, 71) rfl) (vpK (by decide)) (by decide) ?_
  refine j_aload_n dX0_learnSet_25 rfl rfl ?_
  refine j_getR (ci := 0) (N := 10) (f := 2) (T := TX0) 64 dX0_learnSet_26 rfl (hG 63 (5, 10) rfl) rfl (by decide) fl_X0_12 rfl (hP 63 2 64 rfl) ?_
  refine j_getR (ci := 5) (N := 1) (f := 0) (T := TX5) 65 dX0_learnSet_29 rfl (hG 64 (10, 1) rfl) rfl (by decide) fl_X0_92 rfl (hP 64 0 65 rfl) ?_
  refine j_iconst 0 dX0_learnSet_32 rfl (by decide) ?_
  refine j_aload_n dX0_learnSet_33 rfl rfl ?_
  refine j_getI (ci := 0) (N := 10) (f := 6) (T := TX0) dX0_learnSet_34 rfl (hG 63 (5, 10) rfl) rfl (by decide) fl_X0_39 rfl ?_
  refine j_iast' (j := 0) dX0_learnSet_37 rfl (hG 65 (0, 71) rfl) (vpK (by decide)) (by decide) ?_
  refine j_aload_n dX0_learnSet_38 rfl rfl ?_
  refine j_getI (ci := 0) (N := 10) (f := 6) (T := TX0) dX0_learnSet_39 rfl (hG 63 (5, 10) rfl) rfl (by decide) fl_X0_39 rfl ?_
  refine j_if_le 67 dX0_learnSet_42 rfl (by decide) (fun c0 => ?_) (fun c0 => ?_)
  · skip
    refine j_aload_n dX0_learnSet_67 rfl rfl ?_
    refine j_getR (ci := 0) (N := 10) (f := 1) (T := TX0) 12 dX0_learnSet_68 rfl (hG 63 (5, 10) rfl) rfl (by decide) fl_X0_31 rfl (hP 63 1 12 rfl) ?_
    refine j_aload_n dX0_learnSet_71 rfl rfl ?_
    refine j_getR (ci := 0) (N := 10) (f := 2) (T := TX0) 64 dX0_learnSet_72 rfl (hG 63 (5, 10) rfl) rfl (by decide) fl_X0_12 rfl (hP 63 2 64 rfl) ?_
    refine j_cV (as := [.ref 64]) (rest := []) dX0_learnSet_75 rfl vw_X0_101 (hG 12 (15, 11) rfl) rfl ⟨Nat.le_of_ble_eq_true rfl, Nat.le_of_ble_eq_true rfl⟩ rfl rfl (fun _ _ => Nat.le_of_ble_eq_true rfl) (e0 c0) (fun r μ' hr => ?_)
    obtain ⟨rfl, hr⟩ := hr
    exact k0 c0 μ' hr
  · skip
    refine j_aload_n dX0_learnSet_45 rfl rfl ?_
    refine j_getR (ci := 0) (N := 10) (f := 8) (T := TX0) wr dX0_learnSet_46 rfl (hG 63 (5, 10) rfl) rfl (by decide) fl_X0_81 rfl q63_8 ?_
    refine j_iload_n dX0_learnSet_49 rfl rfl ?_
    refine j_bipush 12 dX0_learnSet_50 rfl (by decide) ?_
    refine j_imul dX0_learnSet_52 rfl ?_
    refine j_aload_n dX0_learnSet_53 rfl rfl ?_
    refine j_getR (ci := 0) (N := 10) (f := 2) (T := TX0) 64 dX0_learnSet_54 rfl (hG 63 (5, 10) rfl) rfl (by decide) fl_X0_12 rfl (hP 63 2 64 rfl) ?_
    refine j_getR (ci := 5) (N := 1) (f := 0) (T := TX5) 65 dX0_learnSet_57 rfl (hG 64 (10, 1) rfl) rfl (by decide) fl_X0_92 rfl (hP 64 0 65 rfl) ?_
    refine j_bipush 7 dX0_learnSet_60 rfl (by decide) ?_
    refine j_bipush 12 dX0_learnSet_62 rfl (by decide) ?_
    refine j_copy dX0_learnSet_64 rfl vw_X0_95 hgwr (hG 65 (0, 71) rfl) (o0 c0) (by decide) (by decide) (o1 c0) (by decide) ⟨Nat.le_of_ble_eq_true rfl, fun _ _ => Nat.le_of_ble_eq_true rfl⟩ ?_
    refine j_aload_n dX0_learnSet_67 rfl rfl ?_
    refine j_getR (ci := 0) (N := 10) (f := 1) (T := TX0) 12 dX0_learnSet_68 rfl (hG 63 (5, 10) rfl) rfl (by decide) fl_X0_31 rfl (hP 63 1 12 rfl) ?_
    refine j_aload_n dX0_learnSet_71 rfl rfl ?_
    refine j_getR (ci := 0) (N := 10) (f := 2) (T := TX0) 64 dX0_learnSet_72 rfl (hG 63 (5, 10) rfl) rfl (by decide) fl_X0_12 rfl (hP 63 2 64 rfl) ?_
    refine j_cV (as := [.ref 64]) (rest := []) dX0_learnSet_75 rfl vw_X0_101 (hG 12 (15, 11) rfl) rfl ⟨Nat.le_of_ble_eq_true rfl, Nat.le_of_ble_eq_true rfl⟩ rfl rfl (fun _ _ => Nat.le_of_ble_eq_true rfl) (e1 c0) (fun r μ' hr => ?_)
    obtain ⟨rfl, hr⟩ := hr
    exact k1 c0 μ' hr
theorem b_X0_learnSet_78 {l : Launch} {G : jG} {μ : jM} {φ : jM → Prop} {x1 x2 : Int32} (hG : gGG G) (hP : gPP μ) 
    (k0 : J l mX0_learnSet (jZ0 5 G (pV φ)) G 0 0 83 [.ref 63, .int x1, .int x2, .int (μ.1 63 6)] [] μ) :
    J l mX0_learnSet (jZ0 5 G (pV φ)) G 0 0 78 [.ref 63, .int x1, .int x2, .null] [] μ := by
  refine j_aload_n dX0_learnSet_78 rfl rfl ?_
  refine j_getI (ci := 0) (N := 10) (f := 6) (T := TX0) dX0_learnSet_79 rfl (hG 63 (5, 10) rfl) rfl (by decide) fl_X0_39 rfl ?_
  refine j_istore_n (ls' := [.ref 63, .int x1, .int x2, .int (μ.1 63 6)]) dX0_learnSet_82 rfl rfl (Nat.le_of_ble_eq_true rfl) rfl ?_
  exact k0 
theorem b_X0_learnSet_83 {l : Launch} {G : jG} {μ : jM} {φ : jM → Prop} {x1 x2 x3 : Int32} {ψ1 : jM → Prop} {wr : Nat} (hG : gGG G) (hP : gPP μ) (hgwr : G[wr]? = some (0, 1536)) (q63_8 : μ.2.2 63 8 = some wr) 
    (o0 : (x2 < (x3 : Int32)) → ¬ (x1 * 12) < (0 : Int32)) 
    (o1 : (x2 < (x3 : Int32)) → (Int32.toNatClampNeg (x1 * 12)) + (Int32.toNatClampNeg 12) ≤ 1536) 
    (k0 : (x2 < (x3 : Int32)) → φ (sI μ wr (va_cpy (μ.1 65) (μ.1 wr) (Int32.toNatClampNeg 7) (Int32.toNatClampNeg (x1 * 12)) (Int32.toNatClampNeg 12)))) 
    (e1 : (¬ (x2 < (x3 : Int32))) → jC0 l mX10_passNight 4 G [.ref 12] μ (pV ψ1)) 
    (k1 : (¬ (x2 < (x3 : Int32))) → ∀ μ', ψ1 μ' → J l mX0_learnSet (jZ0 5 G (pV φ)) G 0 0 95 [.ref 63, .int x1, .int x2, .int x3] [] μ') :
    J l mX0_learnSet (jZ0 5 G (pV φ)) G 0 0 83 [.ref 63, .int x1, .int x2, .int x3] [] μ := by
  refine j_iload_n dX0_learnSet_83 rfl rfl ?_
  refine j_iload_n dX0_learnSet_84 rfl rfl ?_
  refine j_icmp_gt 120 dX0_learnSet_85 rfl (by decide) (fun c0 => ?_) (fun c0 => ?_)
  · skip
    refine j_aload_n dX0_learnSet_120 rfl rfl ?_
    refine j_getR (ci := 0) (N := 10) (f := 2) (T := TX0) 64 dX0_learnSet_121 rfl (hG 63 (5, 10) rfl) rfl (by decide) fl_X0_12 rfl (hP 63 2 64 rfl) ?_
    refine j_getR (ci := 5) (N := 1) (f := 0) (T := TX5) 65 dX0_learnSet_124 rfl (hG 64 (10, 1) rfl) rfl (by decide) fl_X0_92 rfl (hP 64 0 65 rfl) ?_
    refine j_bipush 7 dX0_learnSet_127 rfl (by decide) ?_
    refine j_aload_n dX0_learnSet_129 rfl rfl ?_
    refine j_getR (ci := 0) (N := 10) (f := 8) (T := TX0) wr dX0_learnSet_130 rfl (hG 63 (5, 10) rfl) rfl (by decide) fl_X0_81 rfl q63_8 ?_
    refine j_iload_n dX0_learnSet_133 rfl rfl ?_
    refine j_bipush 12 dX0_learnSet_134 rfl (by decide) ?_
    refine j_imul dX0_learnSet_136 rfl ?_
    refine j_bipush 12 dX0_learnSet_137 rfl (by decide) ?_
    refine j_copy dX0_learnSet_139 rfl vw_X0_95 (hG 65 (0, 71) rfl) hgwr (by decide) (o0 c0) (by decide) (by decide) (o1 c0) ⟨Nat.le_of_ble_eq_true rfl, fun _ _ => Nat.le_of_ble_eq_true rfl⟩ ?_
    exact j_vret dX0_learnSet_142 rfl (k0 c0)
  · skip
    refine j_aload_n dX0_learnSet_88 rfl rfl ?_
    refine j_getR (ci := 0) (N := 10) (f := 1) (T := TX0) 12 dX0_learnSet_89 rfl (hG 63 (5, 10) rfl) rfl (by decide) fl_X0_31 rfl (hP 63 1 12 rfl) ?_
    refine j_cV (as := []) (rest := []) dX0_learnSet_92 rfl vw_X0_105 (hG 12 (15, 11) rfl) rfl ⟨Nat.le_of_ble_eq_true rfl, Nat.le_of_ble_eq_true rfl⟩ rfl rfl (fun _ _ => Nat.le_of_ble_eq_true rfl) (e1 c0) (fun r μ' hr => ?_)
    obtain ⟨rfl, hr⟩ := hr
    exact k1 c0 μ' hr
theorem b_X0_learnSet_95 {l : Launch} {G : jG} {μ : jM} {φ : jM → Prop} {x1 x2 x3 : Int32} {so : Nat} (hG : gGG G) (hP : gPP μ) (hgso : G[so]? = some (0, 3968)) (q63_7 : μ.2.2 63 7 = some so) 
    (o0 : vp_in ((x3 * 128) + x1) 3968) 
    (k0 : J l mX0_learnSet (jZ0 5 G (pV φ)) G 0 0 83 [.ref 63, .int x1, .int x2, .int (x3 + 1)] [] (wI μ so (Int32.toNatClampNeg ((x3 * 128) + x1)) (μ.1 12 2))) :
    J l mX0_learnSet (jZ0 5 G (pV φ)) G 0 0 95 [.ref 63, .int x1, .int x2, .int x3] [] μ := by
  refine j_aload_n dX0_learnSet_95 rfl rfl ?_
  refine j_getR (ci := 0) (N := 10) (f := 7) (T := TX0) so dX0_learnSet_96 rfl (hG 63 (5, 10) rfl) rfl (by decide) fl_X0_65 rfl q63_7 ?_
  refine j_iload_n dX0_learnSet_99 rfl rfl ?_
  refine j_sipush 128 dX0_learnSet_100 rfl (by decide) ?_
  refine j_imul dX0_learnSet_103 rfl ?_
  refine j_iload_n dX0_learnSet_104 rfl rfl ?_
  refine j_iadd dX0_learnSet_105 rfl ?_
  refine j_aload_n dX0_learnSet_106 rfl rfl ?_
  refine j_getR (ci := 0) (N := 10) (f := 1) (T := TX0) 12 dX0_learnSet_107 rfl (hG 63 (5, 10) rfl) rfl (by decide) fl_X0_31 rfl (hP 63 1 12 rfl) ?_
  refine j_getI (ci := 10) (N := 11) (f := 2) (T := TX10) dX0_learnSet_110 rfl (hG 12 (15, 11) rfl) rfl (by decide) fl_X0_108 rfl ?_
  refine j_iast' (j := (Int32.toNatClampNeg ((x3 * 128) + x1))) dX0_learnSet_113 rfl hgso o0 rfl ?_
  refine j_iinc (x3 + 1) (ls' := [.ref 63, .int x1, .int x2, .int (x3 + 1)]) dX0_learnSet_114 rfl rfl rfl (Nat.le_of_ble_eq_true rfl) rfl ?_
  refine j_goto 83 dX0_learnSet_117 (by decide) ?_
  exact k0 
theorem b_X1_outdate_0 {l : Launch} {G : jG} {μ : jM} {φ : jM → Prop} (hG : gGG G) (hP : gPP μ) 
    (k0 : φ (wI μ 57 2 (-1))) :
    J l mX1_outdate (jZ0 0 G (pV φ)) G 0 0 0 [.ref 57] [] μ := by
  refine j_aload_n dX1_outdate_0 rfl rfl ?_
  refine j_iconst (-1) dX1_outdate_1 rfl (by decide) ?_
  refine j_putI (ci := 1) (N := 9) (f := 2) (T := TX1) dX1_outdate_2 rfl (hG 57 (6, 9) rfl) rfl (by decide) fl_X1_9 rfl rfl ?_
  exact j_vret dX1_outdate_5 rfl (k0 )
theorem b_X1_startAnew_0 {l : Launch} {G : jG} {μ : jM} {φ : jM → Prop} {ψ0 : jM → Prop} (hG : gGG G) (hP : gPP μ) 
    (e0 : jC0 l mX5_copy 1 G [.ref 58, .ref 52] μ (pV ψ0)) 
    (k0 : ∀ μ', ψ0 μ' → J l mX1_startAnew (jZ0 2 G (pV φ)) G 0 0 11 [.null] [] μ') :
    J l mX1_startAnew (jZ0 2 G (pV φ)) G 0 0 0 [.ref 57] [] μ := by
  refine j_aload_n dX1_startAnew_0 rfl rfl ?_
  refine j_getR (ci := 1) (N := 9) (f := 5) (T := TX1) 58 dX1_startAnew_1 rfl (hG 57 (6, 9) rfl) rfl (by decide) fl_X1_18 rfl (hP 57 5 58 rfl) ?_
  refine j_aload_n dX1_startAnew_4 rfl rfl ?_
  refine j_getR (ci := 1) (N := 9) (f := 4) (T := TX1) 52 dX1_startAnew_5 rfl (hG 57 (6, 9) rfl) rfl (by decide) fl_X1_36 rfl (hP 57 4 52 rfl) ?_
  refine j_cV (as := [.ref 52]) (rest := []) dX1_startAnew_8 rfl vw_X1_39 (hG 58 (10, 1) rfl) rfl ⟨Nat.le_of_ble_eq_true rfl, Nat.le_of_ble_eq_true rfl⟩ rfl rfl (fun _ _ => Nat.le_of_ble_eq_true rfl) (e0 ) (fun r μ' hr => ?_)
  obtain ⟨rfl, hr⟩ := hr
  refine j_forget (ls' := [.null]) ⟨Or.inl rfl, trivial⟩ ?_
  exact k0  μ' hr
theorem b_X1_startAnew_11 {l : Launch} {G : jG} {μ : jM} {φ : jM → Prop} (hG : gGG G) (hP : gPP μ) 
    (k0 : φ μ) :
    J l mX1_startAnew (jZ0 2 G (pV φ)) G 0 0 11 [.null] [] μ := by
  exact j_vret dX1_startAnew_11 rfl (k0 )
theorem b_X1_run_0 {l : Launch} {G : jG} {μ : jM} {φ : jM → Prop} {x1 : Int32} {ψ0 : jM → Prop} (hG : gGG G) (hP : gPP μ) 
    (e0 : jC0 l mX10_enter 3 G [.ref 12, .ref 58] μ (pV ψ0)) 
    (k0 : ∀ μ', ψ0 μ' → J l mX1_run (jZ0 5 G (pV φ)) G 0 0 11 [.ref 57, .int x1, .null] [] μ') :
    J l mX1_run (jZ0 5 G (pV φ)) G 0 0 0 [.ref 57, .int x1, .null] [] μ := by
  refine j_aload_n dX1_run_0 rfl rfl ?_
  refine j_getR (ci := 1) (N := 9) (f := 3) (T := TX1) 12 dX1_run_1 rfl (hG 57 (6, 9) rfl) rfl (by decide) fl_X1_32 rfl (hP 57 3 12 rfl) ?_
  refine j_aload_n dX1_run_4 rfl rfl ?_
  refine j_getR (ci := 1) (N := 9) (f := 5) (T := TX1) 58 dX1_run_5 rfl (hG 57 (6, 9) rfl) rfl (by decide) fl_X1_18 rfl (hP 57 5 58 rfl) ?_
  refine j_cV (as := [.ref 58]) (rest := []) dX1_run_8 rfl vw_X1_43 (hG 12 (15, 11) rfl) rfl ⟨Nat.le_of_ble_eq_true rfl, Nat.le_of_ble_eq_true rfl⟩ rfl rfl (fun _ _ => Nat.le_of_ble_eq_true rfl) (e0 ) (fun r μ' hr => ?_)
  obtain ⟨rfl, hr⟩ := hr
  exact k0  μ' hr
theorem b_X1_run_11 {l : Launch} {G : jG} {μ : jM} {φ : jM → Prop} {x1 : Int32} (hG : gGG G) (hP : gPP μ) 
    (k0 : J l mX1_run (jZ0 5 G (pV φ)) G 0 0 13 [.ref 57, .int x1, .int 0] [] μ) :
    J l mX1_run (jZ0 5 G (pV φ)) G 0 0 11 [.ref 57, .int x1, .null] [] μ := by
  refine j_iconst 0 dX1_run_11 rfl (by decide) ?_
  refine j_istore_n (ls' := [.ref 57, .int x1, .int 0]) dX1_run_12 rfl rfl (Nat.le_of_ble_eq_true rfl) rfl ?_
  exact k0 
theorem b_X1_run_13 {l : Launch} {G : jG} {μ : jM} {φ : jM → Prop} {x1 x2 : Int32} {ψ1 : jM → Prop} (hG : gGG G) (hP : gPP μ) 
    (k0 : (x1 ≤ (x2 : Int32)) → φ μ) 
    (e1 : (¬ (x1 ≤ (x2 : Int32))) → jC0 l mX10_passNight 4 G [.ref 12] μ (pV ψ1)) 
    (k1 : (¬ (x1 ≤ (x2 : Int32))) → ∀ μ', ψ1 μ' → J l mX1_run (jZ0 5 G (pV φ)) G 0 0 25 [.ref 57, .int x1, .int x2] [] μ') :
    J l mX1_run (jZ0 5 G (pV φ)) G 0 0 13 [.ref 57, .int x1, .int x2] [] μ := by
  refine j_iload_n dX1_run_13 rfl rfl ?_
  refine j_iload_n dX1_run_14 rfl rfl ?_
  refine j_icmp_ge 31 dX1_run_15 rfl (by decide) (fun c0 => ?_) (fun c0 => ?_)
  · skip
    exact j_vret dX1_run_31 rfl (k0 c0)
  · skip
    refine j_aload_n dX1_run_18 rfl rfl ?_
    refine j_getR (ci := 1) (N := 9) (f := 3) (T := TX1) 12 dX1_run_19 rfl (hG 57 (6, 9) rfl) rfl (by decide) fl_X1_32 rfl (hP 57 3 12 rfl) ?_
    refine j_cV (as := []) (rest := []) dX1_run_22 rfl vw_X1_48 (hG 12 (15, 11) rfl) rfl ⟨Nat.le_of_ble_eq_true rfl, Nat.le_of_ble_eq_true rfl⟩ rfl rfl (fun _ _ => Nat.le_of_ble_eq_true rfl) (e1 c0) (fun r μ' hr => ?_)
    obtain ⟨rfl, hr⟩ := hr
    exact k1 c0 μ' hr
theorem b_X1_run_25 {l : Launch} {G : jG} {μ : jM} {φ : jM → Prop} {x1 x2 : Int32} (hG : gGG G) (hP : gPP μ) 
    (k0 : J l mX1_run (jZ0 5 G (pV φ)) G 0 0 13 [.ref 57, .int x1, .int (x2 + 1)] [] μ) :
    J l mX1_run (jZ0 5 G (pV φ)) G 0 0 25 [.ref 57, .int x1, .int x2] [] μ := by
  refine j_iinc (x2 + 1) (ls' := [.ref 57, .int x1, .int (x2 + 1)]) dX1_run_25 rfl rfl rfl (Nat.le_of_ble_eq_true rfl) rfl ?_
  refine j_goto 13 dX1_run_28 (by decide) ?_
  exact k0 
theorem b_X1_grown_0 {l : Launch} {G : jG} {μ : jM} {φ : Int32 → jM → Prop} {x1 x2 : Int32} (hG : gGG G) (hP : gPP μ) 
    (k0 : J l mX1_grown (jZ0 0 G (pI φ)) G 0 0 5 [.ref 57, .int x1, .int x2, .int 0, .int x1] [] μ) :
    J l mX1_grown (jZ0 0 G (pI φ)) G 0 0 0 [.ref 57, .int x1, .int x2, .null, .null] [] μ := by
  refine j_iconst 0 dX1_grown_0 rfl (by decide) ?_
  refine j_istore_n (ls' := [.ref 57, .int x1, .int x2, .int 0, .null]) dX1_grown_1 rfl rfl (Nat.le_of_ble_eq_true rfl) rfl ?_
  refine j_iload_n dX1_grown_2 rfl rfl ?_
  refine j_istore (ls' := [.ref 57, .int x1, .int x2, .int 0, .int x1]) dX1_grown_3 rfl (Nat.le_of_ble_eq_true rfl) rfl ?_
  exact k0 
theorem b_X1_grown_5 {l : Launch} {G : jG} {μ : jM} {φ : Int32 → jM → Prop} {x1 x2 x3 x4 : Int32} (hG : gGG G) (hP : gPP μ) 
    (k0 : ((x1 + x2) ≤ (x4 : Int32)) → φ x3 μ) 
    (k1 : (¬ ((x1 + x2) ≤ (x4 : Int32))) → (71 ≤ (x4 : Int32)) → φ x3 μ) 
    (o0 : (¬ ((x1 + x2) ≤ (x4 : Int32))) → (¬ (71 ≤ (x4 : Int32))) → vp_in x4 71) 
    (k2 : (¬ ((x1 + x2) ≤ (x4 : Int32))) → (¬ (71 ≤ (x4 : Int32))) → J l mX1_grown (jZ0 0 G (pI φ)) G 0 0 5 [.ref 57, .int x1, .int x2, .int (x3 + ((μ.1 59 (Int32.toNatClampNeg x4)) - (μ.1 53 (Int32.toNatClampNeg x4)))), .int (x4 + 1)] [] μ) :
    J l mX1_grown (jZ0 0 G (pI φ)) G 0 0 5 [.ref 57, .int x1, .int x2, .int x3, .int x4] [] μ := by
  refine j_iload dX1_grown_5 rfl rfl ?_
  refine j_iload_n dX1_grown_7 rfl rfl ?_
  refine j_iload_n dX1_grown_8 rfl rfl ?_
  refine j_iadd dX1_grown_9 rfl ?_
  refine j_icmp_ge 50 dX1_grown_10 rfl (by decide) (fun c0 => ?_) (fun c0 => ?_)
  · skip
    refine j_iload_n dX1_grown_50 rfl rfl ?_
    exact j_iret dX1_grown_51 rfl (k0 c0)
  · skip
    refine j_iload dX1_grown_13 rfl rfl ?_
    refine j_bipush 71 dX1_grown_15 rfl (by decide) ?_
    refine j_icmp_ge 50 dX1_grown_17 rfl (by decide) (fun c1 => ?_) (fun c1 => ?_)
    · skip
      refine j_iload_n dX1_grown_50 rfl rfl ?_
      exact j_iret dX1_grown_51 rfl (k1 c0 c1)
    · skip
      refine j_iload_n dX1_grown_20 rfl rfl ?_
      refine j_aload_n dX1_grown_21 rfl rfl ?_
      refine j_getR (ci := 1) (N := 9) (f := 5) (T := TX1) 58 dX1_grown_22 rfl (hG 57 (6, 9) rfl) rfl (by decide) fl_X1_18 rfl (hP 57 5 58 rfl) ?_
      refine j_getR (ci := 5) (N := 1) (f := 0) (T := TX5) 59 dX1_grown_25 rfl (hG 58 (10, 1) rfl) rfl (by decide) fl_X1_51 rfl (hP 58 0 59 rfl) ?_
      refine j_iload dX1_grown_28 rfl rfl ?_
      refine j_iald' (j := (Int32.toNatClampNeg x4)) dX1_grown_30 rfl (hG 59 (0, 71) rfl) (o0 c0 c1) rfl ?_
      refine j_aload_n dX1_grown_31 rfl rfl ?_
      refine j_getR (ci := 1) (N := 9) (f := 4) (T := TX1) 52 dX1_grown_32 rfl (hG 57 (6, 9) rfl) rfl (by decide) fl_X1_36 rfl (hP 57 4 52 rfl) ?_
      refine j_getR (ci := 5) (N := 1) (f := 0) (T := TX5) 53 dX1_grown_35 rfl (hG 52 (10, 1) rfl) rfl (by decide) fl_X1_51 rfl (hP 52 0 53 rfl) ?_
      refine j_iload dX1_grown_38 rfl rfl ?_
      refine j_iald' (j := (Int32.toNatClampNeg x4)) dX1_grown_40 rfl (hG 53 (0, 71) rfl) (o0 c0 c1) rfl ?_
      refine j_isub dX1_grown_41 rfl ?_
      refine j_iadd dX1_grown_42 rfl ?_
      refine j_istore_n (ls' := [.ref 57, .int x1, .int x2, .int (x3 + ((μ.1 59 (Int32.toNatClampNeg x4)) - (μ.1 53 (Int32.toNatClampNeg x4)))), .int x4]) dX1_grown_43 rfl rfl (Nat.le_of_ble_eq_true rfl) rfl ?_
      refine j_iinc (x4 + 1) (ls' := [.ref 57, .int x1, .int x2, .int (x3 + ((μ.1 59 (Int32.toNatClampNeg x4)) - (μ.1 53 (Int32.toNatClampNeg x4)))), .int (x4 + 1)]) dX1_grown_44 rfl rfl rfl (Nat.le_of_ble_eq_true rfl) rfl ?_
      refine j_goto 5 dX1_grown_47 (by decide) ?_
      exact k2 c0 c1
theorem b_X1_seekGates_0 {l : Launch} {G : jG} {μ : jM} {φ : jM → Prop} {x1 x2 : Int32} {ψ0 : Int32 → jM → Prop} (hG : gGG G) (hP : gPP μ) 
    (e0 : jC0 l mX1_isAnswered 0 G [.ref 57, .int ((100 + (10 * x1)) + x2)] μ (pI ψ0)) 
    (k0 : ∀ v μ', ψ0 v μ' → J l mX1_seekGates (jZ0 6 G (pV φ)) G 0 0 13 [.ref 57, .int x1, .int x2, .null, .null] [.int v] μ') :
    J l mX1_seekGates (jZ0 6 G (pV φ)) G 0 0 0 [.ref 57, .int x1, .int x2, .null, .null] [] μ := by
  refine j_aload_n dX1_seekGates_0 rfl rfl ?_
  refine j_bipush 100 dX1_seekGates_1 rfl (by decide) ?_
  refine j_bipush 10 dX1_seekGates_3 rfl (by decide) ?_
  refine j_iload_n dX1_seekGates_5 rfl rfl ?_
  refine j_imul dX1_seekGates_6 rfl ?_
  refine j_iadd dX1_seekGates_7 rfl ?_
  refine j_iload_n dX1_seekGates_8 rfl rfl ?_
  refine j_iadd dX1_seekGates_9 rfl ?_
  refine j_cV (as := [.int ((100 + (10 * x1)) + x2)]) (rest := []) dX1_seekGates_10 rfl vw_X1_54 (hG 57 (6, 9) rfl) rfl ⟨Nat.le_of_ble_eq_true rfl, Nat.le_of_ble_eq_true rfl⟩ rfl rfl (fun _ _ => Nat.le_of_ble_eq_true rfl) (e0 ) (fun r μ' hr => ?_)
  obtain ⟨v, rfl, hr⟩ := hr
  exact k0  v μ' hr
theorem b_X1_seekGates_13 {l : Launch} {G : jG} {μ : jM} {φ : jM → Prop} {x1 x2 z0 : Int32} {t : Nat} (hG : gGG G) (hP : gPP μ) (ht : tO gTold pTold G μ t) (q12_0 : μ.2.2 12 0 = some t) 
    (k0 : (z0 = (0 : Int32)) → J l mX1_seekGates (jZ0 6 G (pV φ)) G 0 0 33 [.ref 57, .int x1, .int x2, .int (1 <<< ((μ.1 t 1) &&& 31)), .int 0] [] μ) 
    (k1 : (¬ (z0 = (0 : Int32))) → φ μ) :
    J l mX1_seekGates (jZ0 6 G (pV φ)) G 0 0 13 [.ref 57, .int x1, .int x2, .null, .null] [.int z0] μ := by
  refine j_if_eq 17 dX1_seekGates_13 rfl (by decide) (fun c0 => ?_) (fun c0 => ?_)
  · skip
    refine j_iconst 1 dX1_seekGates_17 rfl (by decide) ?_
    refine j_aload_n dX1_seekGates_18 rfl rfl ?_
    refine j_getR (ci := 1) (N := 9) (f := 3) (T := TX1) 12 dX1_seekGates_19 rfl (hG 57 (6, 9) rfl) rfl (by decide) fl_X1_32 rfl (hP 57 3 12 rfl) ?_
    refine j_getR (ci := 10) (N := 11) (f := 0) (T := TX10) t dX1_seekGates_22 rfl (hG 12 (15, 11) rfl) rfl (by decide) fl_X1_58 rfl q12_0 ?_
    refine j_getI (ci := 8) (N := 20) (f := 1) (T := TX8) dX1_seekGates_25 rfl (ht.1 0 (13, 20) rfl) rfl (by decide) fl_X1_62 rfl ?_
    refine j_ishl dX1_seekGates_28 rfl ?_
    refine j_istore_n (ls' := [.ref 57, .int x1, .int x2, .int (1 <<< ((μ.1 t 1) &&& 31)), .null]) dX1_seekGates_29 rfl rfl (Nat.le_of_ble_eq_true rfl) rfl ?_
    refine j_iconst 0 dX1_seekGates_30 rfl (by decide) ?_
    refine j_istore (ls' := [.ref 57, .int x1, .int x2, .int (1 <<< ((μ.1 t 1) &&& 31)), .int 0]) dX1_seekGates_31 rfl (Nat.le_of_ble_eq_true rfl) rfl ?_
    exact k0 c0
  · skip
    exact j_vret dX1_seekGates_16 rfl (k1 c0)
theorem b_X1_seekGates_33 {l : Launch} {G : jG} {μ : jM} {φ : jM → Prop} {x1 x2 x3 x4 : Int32} {ψ1 : Int32 → jM → Prop} (hG : gGG G) (hP : gPP μ) 
    (k0 : (x3 ≤ (x4 : Int32)) → φ μ) 
    (e1 : (¬ (x3 ≤ (x4 : Int32))) → jC0 l mJI_bitCount 0 G [.int x4] μ (pI ψ1)) 
    (k1 : (¬ (x3 ≤ (x4 : Int32))) → ∀ v μ', ψ1 v μ' → J l mX1_seekGates (jZ0 6 G (pV φ)) G 0 0 44 [.ref 57, .int x1, .int x2, .int x3, .int x4] [.int v] μ') :
    J l mX1_seekGates (jZ0 6 G (pV φ)) G 0 0 33 [.ref 57, .int x1, .int x2, .int x3, .int x4] [] μ := by
  refine j_iload dX1_seekGates_33 rfl rfl ?_
  refine j_iload_n dX1_seekGates_35 rfl rfl ?_
  refine j_icmp_ge 86 dX1_seekGates_36 rfl (by decide) (fun c0 => ?_) (fun c0 => ?_)
  · skip
    exact j_vret dX1_seekGates_86 rfl (k0 c0)
  · skip
    refine j_iload dX1_seekGates_39 rfl rfl ?_
    refine j_cS (as := [.int x4]) (rest := []) dX1_seekGates_41 rfl vw_X1_67 ⟨Nat.le_of_ble_eq_true rfl, Nat.le_of_ble_eq_true rfl⟩ rfl rfl (fun _ _ => Nat.le_of_ble_eq_true rfl) (e1 c0) (fun r μ' hr => ?_)
    obtain ⟨v, rfl, hr⟩ := hr
    exact k1 c0 v μ' hr
theorem b_X1_seekGates_44 {l : Launch} {G : jG} {μ : jM} {φ : jM → Prop} {x1 x2 x3 x4 z0 : Int32} {ψ1 : jM → Prop} (hG : gGG G) (hP : gPP μ) 
    (k0 : (¬ z0 = (x1 : Int32)) → J l mX1_seekGates (jZ0 6 G (pV φ)) G 0 0 33 [.ref 57, .int x1, .int x2, .int x3, .int (x4 + 1)] [] μ) 
    (e1 : (z0 = (x1 : Int32)) → jC0 l mX1_startAnew 2 G [.ref 57] μ (pV ψ1)) 
    (k1 : (z0 = (x1 : Int32)) → ∀ μ', ψ1 μ' → J l mX1_seekGates (jZ0 6 G (pV φ)) G 0 0 52 [.ref 57, .int x1, .int x2, .int x3, .int x4] [] μ') :
    J l mX1_seekGates (jZ0 6 G (pV φ)) G 0 0 44 [.ref 57, .int x1, .int x2, .int x3, .int x4] [.int z0] μ := by
  refine j_iload_n dX1_seekGates_44 rfl rfl ?_
  refine j_icmp_ne 80 dX1_seekGates_45 rfl (by decide) (fun c0 => ?_) (fun c0 => ?_)
  · skip
    refine j_iinc (x4 + 1) (ls' := [.ref 57, .int x1, .int x2, .int x3, .int (x4 + 1)]) dX1_seekGates_80 rfl rfl rfl (Nat.le_of_ble_eq_true rfl) rfl ?_
    refine j_goto 33 dX1_seekGates_83 (by decide) ?_
    exact k0 c0
  · skip
    refine j_aload_n dX1_seekGates_48 rfl rfl ?_
    refine j_cV (as := []) (rest := []) dX1_seekGates_49 rfl vw_X1_73 (hG 57 (6, 9) rfl) rfl ⟨Nat.le_of_ble_eq_true rfl, Nat.le_of_ble_eq_true rfl⟩ rfl rfl (fun _ _ => Nat.le_of_ble_eq_true rfl) (e1 c0) (fun r μ' hr => ?_)
    obtain ⟨rfl, hr⟩ := hr
    exact k1 c0 μ' hr
theorem b_X1_seekGates_52 {l : Launch} {G : jG} {μ : jM} {φ : jM → Prop} {x1 x2 x3 x4 : Int32} {ψ0 : jM → Prop} (hG : gGG G) (hP : gPP μ) 
    (e0 : jC0 l mX1_run 5 G [.ref 57, .int x2] (wI μ 59 4 x4) (pV ψ0)) 
    (k0 : ∀ μ', ψ0 μ' → J l mX1_seekGates (jZ0 6 G (pV φ)) G 0 0 68 [.ref 57, .int x1, .int x2, .int x3, .int x4] [] μ') :
    J l mX1_seekGates (jZ0 6 G (pV φ)) G 0 0 52 [.ref 57, .int x1, .int x2, .int x3, .int x4] [] μ := by
  refine j_aload_n dX1_seekGates_52 rfl rfl ?_
  refine j_getR (ci := 1) (N := 9) (f := 5) (T := TX1) 58 dX1_seekGates_53 rfl (hG 57 (6, 9) rfl) rfl (by decide) fl_X1_18 rfl (hP 57 5 58 rfl) ?_
  refine j_getR (ci := 5) (N := 1) (f := 0) (T := TX5) 59 dX1_seekGates_56 rfl (hG 58 (10, 1) rfl) rfl (by decide) fl_X1_51 rfl (hP 58 0 59 rfl) ?_
  refine j_iconst 4 dX1_seekGates_59 rfl (by decide) ?_
  refine j_iload dX1_seekGates_60 rfl rfl ?_
  refine j_iast' (j := 4) dX1_seekGates_62 rfl (hG 59 (0, 71) rfl) (vpK (by decide)) (by decide) ?_
  refine j_aload_n dX1_seekGates_63 rfl rfl ?_
  refine j_iload_n dX1_seekGates_64 rfl rfl ?_
  refine j_cV (as := [.int x2]) (rest := []) dX1_seekGates_65 rfl vw_X1_76 (hG 57 (6, 9) rfl) rfl ⟨Nat.le_of_ble_eq_true rfl, Nat.le_of_ble_eq_true rfl⟩ rfl rfl (fun _ _ => Nat.le_of_ble_eq_true rfl) (e0 ) (fun r μ' hr => ?_)
  obtain ⟨rfl, hr⟩ := hr
  exact k0  μ' hr
theorem b_X1_seekGates_68 {l : Launch} {G : jG} {μ : jM} {φ : jM → Prop} {x1 x2 x3 x4 : Int32} {ψ0 : Int32 → jM → Prop} (hG : gGG G) (hP : gPP μ) 
    (e0 : jC0 l mX1_grown 0 G [.ref 57, .int 3, .int 1] μ (pI ψ0)) 
    (k0 : ∀ v μ', ψ0 v μ' → J l mX1_seekGates (jZ0 6 G (pV φ)) G 0 0 75 [.ref 57, .int x1, .int x2, .int x3, .int x4] [.int v, .ref 57] μ') :
    J l mX1_seekGates (jZ0 6 G (pV φ)) G 0 0 68 [.ref 57, .int x1, .int x2, .int x3, .int x4] [] μ := by
  refine j_aload_n dX1_seekGates_68 rfl rfl ?_
  refine j_aload_n dX1_seekGates_69 rfl rfl ?_
  refine j_iconst 3 dX1_seekGates_70 rfl (by decide) ?_
  refine j_iconst 1 dX1_seekGates_71 rfl (by decide) ?_
  refine j_cV (as := [.int 3, .int 1]) (rest := [.ref 57]) dX1_seekGates_72 rfl vw_X1_80 (hG 57 (6, 9) rfl) rfl ⟨Nat.le_of_ble_eq_true rfl, Nat.le_of_ble_eq_true rfl⟩ rfl rfl (fun _ _ => Nat.le_of_ble_eq_true rfl) (e0 ) (fun r μ' hr => ?_)
  obtain ⟨v, rfl, hr⟩ := hr
  exact k0  v μ' hr
theorem b_X1_seekGates_75 {l : Launch} {G : jG} {μ : jM} {φ : jM → Prop} {x1 x2 x3 x4 z0 : Int32} {ψ0 : jM → Prop} (hG : gGG G) (hP : gPP μ) 
    (e0 : jC0 l mX1_keepMost 0 G [.ref 57, .int z0, .int x4] μ (pV ψ0)) 
    (k0 : ∀ μ', ψ0 μ' → J l mX1_seekGates (jZ0 6 G (pV φ)) G 0 0 80 [.ref 57, .int x1, .int x2, .int x3, .int x4] [] μ') :
    J l mX1_seekGates (jZ0 6 G (pV φ)) G 0 0 75 [.ref 57, .int x1, .int x2, .int x3, .int x4] [.int z0, .ref 57] μ := by
  refine j_iload dX1_seekGates_75 rfl rfl ?_
  refine j_cV (as := [.int z0, .int x4]) (rest := []) dX1_seekGates_77 rfl vw_X1_84 (hG 57 (6, 9) rfl) rfl ⟨Nat.le_of_ble_eq_true rfl, Nat.le_of_ble_eq_true rfl⟩ rfl rfl (fun _ _ => Nat.le_of_ble_eq_true rfl) (e0 ) (fun r μ' hr => ?_)
  obtain ⟨rfl, hr⟩ := hr
  exact k0  μ' hr
theorem b_X1_seekGates_80 {l : Launch} {G : jG} {μ : jM} {φ : jM → Prop} {x1 x2 x3 x4 : Int32} (hG : gGG G) (hP : gPP μ) 
    (k0 : J l mX1_seekGates (jZ0 6 G (pV φ)) G 0 0 33 [.ref 57, .int x1, .int x2, .int x3, .int (x4 + 1)] [] μ) :
    J l mX1_seekGates (jZ0 6 G (pV φ)) G 0 0 80 [.ref 57, .int x1, .int x2, .int x3, .int x4] [] μ := by
  refine j_iinc (x4 + 1) (ls' := [.ref 57, .int x1, .int x2, .int x3, .int (x4 + 1)]) dX1_seekGates_80 rfl rfl rfl (Nat.le_of_ble_eq_true rfl) rfl ?_
  refine j_goto 33 dX1_seekGates_83 (by decide) ?_
  exact k0 
theorem b_X1_seekRate_0 {l : Launch} {G : jG} {μ : jM} {φ : jM → Prop} {x1 : Int32} {ψ0 : Int32 → jM → Prop} (hG : gGG G) (hP : gPP μ) 
    (e0 : jC0 l mX1_isAnswered 0 G [.ref 57, .int (200 + x1)] μ (pI ψ0)) 
    (k0 : ∀ v μ', ψ0 v μ' → J l mX1_seekRate (jZ0 6 G (pV φ)) G 0 0 9 [.ref 57, .int x1, .null] [.int v] μ') :
    J l mX1_seekRate (jZ0 6 G (pV φ)) G 0 0 0 [.ref 57, .int x1, .null] [] μ := by
  refine j_aload_n dX1_seekRate_0 rfl rfl ?_
  refine j_sipush 200 dX1_seekRate_1 rfl (by decide) ?_
  refine j_iload_n dX1_seekRate_4 rfl rfl ?_
  refine j_iadd dX1_seekRate_5 rfl ?_
  refine j_cV (as := [.int (200 + x1)]) (rest := []) dX1_seekRate_6 rfl vw_X1_54 (hG 57 (6, 9) rfl) rfl ⟨Nat.le_of_ble_eq_true rfl, Nat.le_of_ble_eq_true rfl⟩ rfl rfl (fun _ _ => Nat.le_of_ble_eq_true rfl) (e0 ) (fun r μ' hr => ?_)
  obtain ⟨v, rfl, hr⟩ := hr
  exact k0  v μ' hr
theorem b_X1_seekRate_9 {l : Launch} {G : jG} {μ : jM} {φ : jM → Prop} {x1 z0 : Int32} (hG : gGG G) (hP : gPP μ) 
    (k0 : (z0 = (0 : Int32)) → J l mX1_seekRate (jZ0 6 G (pV φ)) G 0 0 15 [.ref 57, .int x1, .int 0] [] μ) 
    (k1 : (¬ (z0 = (0 : Int32))) → φ μ) :
    J l mX1_seekRate (jZ0 6 G (pV φ)) G 0 0 9 [.ref 57, .int x1, .null] [.int z0] μ := by
  refine j_if_eq 13 dX1_seekRate_9 rfl (by decide) (fun c0 => ?_) (fun c0 => ?_)
  · skip
    refine j_iconst 0 dX1_seekRate_13 rfl (by decide) ?_
    refine j_istore_n (ls' := [.ref 57, .int x1, .int 0]) dX1_seekRate_14 rfl rfl (Nat.le_of_ble_eq_true rfl) rfl ?_
    exact k0 c0
  · skip
    exact j_vret dX1_seekRate_12 rfl (k1 c0)
theorem b_X1_seekRate_15 {l : Launch} {G : jG} {μ : jM} {φ : jM → Prop} {x1 x2 : Int32} {ψ1 : jM → Prop} (hG : gGG G) (hP : gPP μ) 
    (k0 : (9 < (x2 : Int32)) → φ μ) 
    (e1 : (¬ (9 < (x2 : Int32))) → jC0 l mX1_startAnew 2 G [.ref 57] μ (pV ψ1)) 
    (k1 : (¬ (9 < (x2 : Int32))) → ∀ μ', ψ1 μ' → J l mX1_seekRate (jZ0 6 G (pV φ)) G 0 0 25 [.ref 57, .int x1, .int x2] [] μ') :
    J l mX1_seekRate (jZ0 6 G (pV φ)) G 0 0 15 [.ref 57, .int x1, .int x2] [] μ := by
  refine j_iload_n dX1_seekRate_15 rfl rfl ?_
  refine j_bipush 9 dX1_seekRate_16 rfl (by decide) ?_
  refine j_icmp_gt 56 dX1_seekRate_18 rfl (by decide) (fun c0 => ?_) (fun c0 => ?_)
  · skip
    exact j_vret dX1_seekRate_56 rfl (k0 c0)
  · skip
    refine j_aload_n dX1_seekRate_21 rfl rfl ?_
    refine j_cV (as := []) (rest := []) dX1_seekRate_22 rfl vw_X1_73 (hG 57 (6, 9) rfl) rfl ⟨Nat.le_of_ble_eq_true rfl, Nat.le_of_ble_eq_true rfl⟩ rfl rfl (fun _ _ => Nat.le_of_ble_eq_true rfl) (e1 c0) (fun r μ' hr => ?_)
    obtain ⟨rfl, hr⟩ := hr
    exact k1 c0 μ' hr
theorem b_X1_seekRate_25 {l : Launch} {G : jG} {μ : jM} {φ : jM → Prop} {x1 x2 : Int32} {ψ0 : jM → Prop} (hG : gGG G) (hP : gPP μ) 
    (e0 : jC0 l mX5_setRates 0 G [.ref 58, .int x2, .int x2] μ (pV ψ0)) 
    (k0 : ∀ μ', ψ0 μ' → J l mX1_seekRate (jZ0 6 G (pV φ)) G 0 0 34 [.ref 57, .int x1, .int x2] [] μ') :
    J l mX1_seekRate (jZ0 6 G (pV φ)) G 0 0 25 [.ref 57, .int x1, .int x2] [] μ := by
  refine j_aload_n dX1_seekRate_25 rfl rfl ?_
  refine j_getR (ci := 1) (N := 9) (f := 5) (T := TX1) 58 dX1_seekRate_26 rfl (hG 57 (6, 9) rfl) rfl (by decide) fl_X1_18 rfl (hP 57 5 58 rfl) ?_
  refine j_iload_n dX1_seekRate_29 rfl rfl ?_
  refine j_iload_n dX1_seekRate_30 rfl rfl ?_
  refine j_cV (as := [.int x2, .int x2]) (rest := []) dX1_seekRate_31 rfl vw_X1_88 (hG 58 (10, 1) rfl) rfl ⟨Nat.le_of_ble_eq_true rfl, Nat.le_of_ble_eq_true rfl⟩ rfl rfl (fun _ _ => Nat.le_of_ble_eq_true rfl) (e0 ) (fun r μ' hr => ?_)
  obtain ⟨rfl, hr⟩ := hr
  exact k0  μ' hr
theorem b_X1_seekRate_34 {l : Launch} {G : jG} {μ : jM} {φ : jM → Prop} {x1 x2 : Int32} {ψ0 : jM → Prop} (hG : gGG G) (hP : gPP μ) 
    (e0 : jC0 l mX1_run 5 G [.ref 57, .int x1] μ (pV ψ0)) 
    (k0 : ∀ μ', ψ0 μ' → J l mX1_seekRate (jZ0 6 G (pV φ)) G 0 0 39 [.ref 57, .int x1, .int x2] [] μ') :
    J l mX1_seekRate (jZ0 6 G (pV φ)) G 0 0 34 [.ref 57, .int x1, .int x2] [] μ := by
  refine j_aload_n dX1_seekRate_34 rfl rfl ?_
  refine j_iload_n dX1_seekRate_35 rfl rfl ?_
  refine j_cV (as := [.int x1]) (rest := []) dX1_seekRate_36 rfl vw_X1_76 (hG 57 (6, 9) rfl) rfl ⟨Nat.le_of_ble_eq_true rfl, Nat.le_of_ble_eq_true rfl⟩ rfl rfl (fun _ _ => Nat.le_of_ble_eq_true rfl) (e0 ) (fun r μ' hr => ?_)
  obtain ⟨rfl, hr⟩ := hr
  exact k0  μ' hr
theorem b_X1_seekRate_39 {l : Launch} {G : jG} {μ : jM} {φ : jM → Prop} {x1 x2 : Int32} {ψ0 : Int32 → jM → Prop} (hG : gGG G) (hP : gPP μ) 
    (e0 : jC0 l mX1_grown 0 G [.ref 57, .int 3, .int 1] μ (pI ψ0)) 
    (k0 : ∀ v μ', ψ0 v μ' → J l mX1_seekRate (jZ0 6 G (pV φ)) G 0 0 46 [.ref 57, .int x1, .int x2] [.int v, .ref 57] μ') :
    J l mX1_seekRate (jZ0 6 G (pV φ)) G 0 0 39 [.ref 57, .int x1, .int x2] [] μ := by
  refine j_aload_n dX1_seekRate_39 rfl rfl ?_
  refine j_aload_n dX1_seekRate_40 rfl rfl ?_
  refine j_iconst 3 dX1_seekRate_41 rfl (by decide) ?_
  refine j_iconst 1 dX1_seekRate_42 rfl (by decide) ?_
  refine j_cV (as := [.int 3, .int 1]) (rest := [.ref 57]) dX1_seekRate_43 rfl vw_X1_80 (hG 57 (6, 9) rfl) rfl ⟨Nat.le_of_ble_eq_true rfl, Nat.le_of_ble_eq_true rfl⟩ rfl rfl (fun _ _ => Nat.le_of_ble_eq_true rfl) (e0 ) (fun r μ' hr => ?_)
  obtain ⟨v, rfl, hr⟩ := hr
  exact k0  v μ' hr
theorem b_X1_seekRate_46 {l : Launch} {G : jG} {μ : jM} {φ : jM → Prop} {x1 x2 z0 : Int32} {ψ0 : jM → Prop} (hG : gGG G) (hP : gPP μ) 
    (e0 : jC0 l mX1_keepMost 0 G [.ref 57, .int z0, .int x2] μ (pV ψ0)) 
    (k0 : ∀ μ', ψ0 μ' → J l mX1_seekRate (jZ0 6 G (pV φ)) G 0 0 50 [.ref 57, .int x1, .int x2] [] μ') :
    J l mX1_seekRate (jZ0 6 G (pV φ)) G 0 0 46 [.ref 57, .int x1, .int x2] [.int z0, .ref 57] μ := by
  refine j_iload_n dX1_seekRate_46 rfl rfl ?_
  refine j_cV (as := [.int z0, .int x2]) (rest := []) dX1_seekRate_47 rfl vw_X1_84 (hG 57 (6, 9) rfl) rfl ⟨Nat.le_of_ble_eq_true rfl, Nat.le_of_ble_eq_true rfl⟩ rfl rfl (fun _ _ => Nat.le_of_ble_eq_true rfl) (e0 ) (fun r μ' hr => ?_)
  obtain ⟨rfl, hr⟩ := hr
  exact k0  μ' hr
theorem b_X1_seekRate_50 {l : Launch} {G : jG} {μ : jM} {φ : jM → Prop} {x1 x2 : Int32} (hG : gGG G) (hP : gPP μ) 
    (k0 : J l mX1_seekRate (jZ0 6 G (pV φ)) G 0 0 15 [.ref 57, .int x1, .int (x2 + 1)] [] μ) :
    J l mX1_seekRate (jZ0 6 G (pV φ)) G 0 0 50 [.ref 57, .int x1, .int x2] [] μ := by
  refine j_iinc (x2 + 1) (ls' := [.ref 57, .int x1, .int (x2 + 1)]) dX1_seekRate_50 rfl rfl rfl (Nat.le_of_ble_eq_true rfl) rfl ?_
  refine j_goto 15 dX1_seekRate_53 (by decide) ?_
  exact k0 
theorem b_X1_seekBusiest_0 {l : Launch} {G : jG} {μ : jM} {φ : jM → Prop} {x1 : Int32} {ψ0 : Int32 → jM → Prop} (hG : gGG G) (hP : gPP μ) 
    (e0 : jC0 l mX1_isAnswered 0 G [.ref 57, .int (300 + x1)] μ (pI ψ0)) 
    (k0 : ∀ v μ', ψ0 v μ' → J l mX1_seekBusiest (jZ0 6 G (pV φ)) G 0 0 9 [.ref 57, .int x1, .null] [.int v] μ') :
    J l mX1_seekBusiest (jZ0 6 G (pV φ)) G 0 0 0 [.ref 57, .int x1, .null] [] μ := by
  refine j_aload_n dX1_seekBusiest_0 rfl rfl ?_
  refine j_sipush 300 dX1_seekBusiest_1 rfl (by decide) ?_
  refine j_iload_n dX1_seekBusiest_4 rfl rfl ?_
  refine j_iadd dX1_seekBusiest_5 rfl ?_
  refine j_cV (as := [.int (300 + x1)]) (rest := []) dX1_seekBusiest_6 rfl vw_X1_54 (hG 57 (6, 9) rfl) rfl ⟨Nat.le_of_ble_eq_true rfl, Nat.le_of_ble_eq_true rfl⟩ rfl rfl (fun _ _ => Nat.le_of_ble_eq_true rfl) (e0 ) (fun r μ' hr => ?_)
  obtain ⟨v, rfl, hr⟩ := hr
  exact k0  v μ' hr
theorem b_X1_seekBusiest_9 {l : Launch} {G : jG} {μ : jM} {φ : jM → Prop} {x1 z0 : Int32} {ψ0 : jM → Prop} (hG : gGG G) (hP : gPP μ) 
    (e0 : (z0 = (0 : Int32)) → jC0 l mX1_startAnew 2 G [.ref 57] μ (pV ψ0)) 
    (k0 : (z0 = (0 : Int32)) → ∀ μ', ψ0 μ' → J l mX1_seekBusiest (jZ0 6 G (pV φ)) G 0 0 17 [.ref 57, .int x1, .null] [] μ') 
    (k1 : (¬ (z0 = (0 : Int32))) → φ μ) :
    J l mX1_seekBusiest (jZ0 6 G (pV φ)) G 0 0 9 [.ref 57, .int x1, .null] [.int z0] μ := by
  refine j_if_eq 13 dX1_seekBusiest_9 rfl (by decide) (fun c0 => ?_) (fun c0 => ?_)
  · skip
    refine j_aload_n dX1_seekBusiest_13 rfl rfl ?_
    refine j_cV (as := []) (rest := []) dX1_seekBusiest_14 rfl vw_X1_73 (hG 57 (6, 9) rfl) rfl ⟨Nat.le_of_ble_eq_true rfl, Nat.le_of_ble_eq_true rfl⟩ rfl rfl (fun _ _ => Nat.le_of_ble_eq_true rfl) (e0 c0) (fun r μ' hr => ?_)
    obtain ⟨rfl, hr⟩ := hr
    exact k0 c0 μ' hr
  · skip
    exact j_vret dX1_seekBusiest_12 rfl (k1 c0)
theorem b_X1_seekBusiest_17 {l : Launch} {G : jG} {μ : jM} {φ : jM → Prop} {x1 : Int32} {ψ0 : jM → Prop} (hG : gGG G) (hP : gPP μ) 
    (e0 : jC0 l mX1_run 5 G [.ref 57, .int x1] μ (pV ψ0)) 
    (k0 : ∀ μ', ψ0 μ' → J l mX1_seekBusiest (jZ0 6 G (pV φ)) G 0 0 22 [.ref 57, .null, .null] [] μ') :
    J l mX1_seekBusiest (jZ0 6 G (pV φ)) G 0 0 17 [.ref 57, .int x1, .null] [] μ := by
  refine j_aload_n dX1_seekBusiest_17 rfl rfl ?_
  refine j_iload_n dX1_seekBusiest_18 rfl rfl ?_
  refine j_cV (as := [.int x1]) (rest := []) dX1_seekBusiest_19 rfl vw_X1_76 (hG 57 (6, 9) rfl) rfl ⟨Nat.le_of_ble_eq_true rfl, Nat.le_of_ble_eq_true rfl⟩ rfl rfl (fun _ _ => Nat.le_of_ble_eq_true rfl) (e0 ) (fun r μ' hr => ?_)
  obtain ⟨rfl, hr⟩ := hr
  refine j_forget (ls' := [.ref 57, .null, .null]) ⟨Or.inr rfl, Or.inl rfl, Or.inr rfl, trivial⟩ ?_
  exact k0  μ' hr
theorem b_X1_seekBusiest_22 {l : Launch} {G : jG} {μ : jM} {φ : jM → Prop} (hG : gGG G) (hP : gPP μ) 
    (k0 : J l mX1_seekBusiest (jZ0 6 G (pV φ)) G 0 0 24 [.ref 57, .null, .int 0] [] μ) :
    J l mX1_seekBusiest (jZ0 6 G (pV φ)) G 0 0 22 [.ref 57, .null, .null] [] μ := by
  refine j_iconst 0 dX1_seekBusiest_22 rfl (by decide) ?_
  refine j_istore_n (ls' := [.ref 57, .null, .int 0]) dX1_seekBusiest_23 rfl rfl (Nat.le_of_ble_eq_true rfl) rfl ?_
  exact k0 
theorem b_X1_seekBusiest_24 {l : Launch} {G : jG} {μ : jM} {φ : jM → Prop} {x2 : Int32} {ψ1 : Int32 → jM → Prop} {t : Nat} (hG : gGG G) (hP : gPP μ) (ht : tO gTold pTold G μ t) (q12_0 : μ.2.2 12 0 = some t) 
    (k0 : ((μ.1 t 1) ≤ (x2 : Int32)) → φ μ) 
    (e1 : (¬ ((μ.1 t 1) ≤ (x2 : Int32))) → jC0 l mX1_grown 0 G [.ref 57, .int (7 + x2), .int 1] μ (pI ψ1)) 
    (k1 : (¬ ((μ.1 t 1) ≤ (x2 : Int32))) → ∀ v μ', ψ1 v μ' → J l mX1_seekBusiest (jZ0 6 G (pV φ)) G 0 0 48 [.ref 57, .null, .int x2] [.int v, .ref 57] μ') :
    J l mX1_seekBusiest (jZ0 6 G (pV φ)) G 0 0 24 [.ref 57, .null, .int x2] [] μ := by
  refine j_iload_n dX1_seekBusiest_24 rfl rfl ?_
  refine j_aload_n dX1_seekBusiest_25 rfl rfl ?_
  refine j_getR (ci := 1) (N := 9) (f := 3) (T := TX1) 12 dX1_seekBusiest_26 rfl (hG 57 (6, 9) rfl) rfl (by decide) fl_X1_32 rfl (hP 57 3 12 rfl) ?_
  refine j_getR (ci := 10) (N := 11) (f := 0) (T := TX10) t dX1_seekBusiest_29 rfl (hG 12 (15, 11) rfl) rfl (by decide) fl_X1_58 rfl q12_0 ?_
  refine j_getI (ci := 8) (N := 20) (f := 1) (T := TX8) dX1_seekBusiest_32 rfl (ht.1 0 (13, 20) rfl) rfl (by decide) fl_X1_62 rfl ?_
  refine j_icmp_ge 58 dX1_seekBusiest_35 rfl (by decide) (fun c0 => ?_) (fun c0 => ?_)
  · skip
    exact j_vret dX1_seekBusiest_58 rfl (k0 c0)
  · skip
    refine j_aload_n dX1_seekBusiest_38 rfl rfl ?_
    refine j_aload_n dX1_seekBusiest_39 rfl rfl ?_
    refine j_bipush 7 dX1_seekBusiest_40 rfl (by decide) ?_
    refine j_iload_n dX1_seekBusiest_42 rfl rfl ?_
    refine j_iadd dX1_seekBusiest_43 rfl ?_
    refine j_iconst 1 dX1_seekBusiest_44 rfl (by decide) ?_
    refine j_cV (as := [.int (7 + x2), .int 1]) (rest := [.ref 57]) dX1_seekBusiest_45 rfl vw_X1_80 (hG 57 (6, 9) rfl) rfl ⟨Nat.le_of_ble_eq_true rfl, Nat.le_of_ble_eq_true rfl⟩ rfl rfl (fun _ _ => Nat.le_of_ble_eq_true rfl) (e1 c0) (fun r μ' hr => ?_)
    obtain ⟨v, rfl, hr⟩ := hr
    exact k1 c0 v μ' hr
theorem b_X1_seekBusiest_48 {l : Launch} {G : jG} {μ : jM} {φ : jM → Prop} {x2 z0 : Int32} {ψ0 : jM → Prop} (hG : gGG G) (hP : gPP μ) 
    (e0 : jC0 l mX1_keepMost 0 G [.ref 57, .int z0, .int x2] μ (pV ψ0)) 
    (k0 : ∀ μ', ψ0 μ' → J l mX1_seekBusiest (jZ0 6 G (pV φ)) G 0 0 52 [.ref 57, .null, .int x2] [] μ') :
    J l mX1_seekBusiest (jZ0 6 G (pV φ)) G 0 0 48 [.ref 57, .null, .int x2] [.int z0, .ref 57] μ := by
  refine j_iload_n dX1_seekBusiest_48 rfl rfl ?_
  refine j_cV (as := [.int z0, .int x2]) (rest := []) dX1_seekBusiest_49 rfl vw_X1_84 (hG 57 (6, 9) rfl) rfl ⟨Nat.le_of_ble_eq_true rfl, Nat.le_of_ble_eq_true rfl⟩ rfl rfl (fun _ _ => Nat.le_of_ble_eq_true rfl) (e0 ) (fun r μ' hr => ?_)
  obtain ⟨rfl, hr⟩ := hr
  exact k0  μ' hr
theorem b_X1_seekBusiest_52 {l : Launch} {G : jG} {μ : jM} {φ : jM → Prop} {x2 : Int32} (hG : gGG G) (hP : gPP μ) 
    (k0 : J l mX1_seekBusiest (jZ0 6 G (pV φ)) G 0 0 24 [.ref 57, .null, .int (x2 + 1)] [] μ) :
    J l mX1_seekBusiest (jZ0 6 G (pV φ)) G 0 0 52 [.ref 57, .null, .int x2] [] μ := by
  refine j_iinc (x2 + 1) (ls' := [.ref 57, .null, .int (x2 + 1)]) dX1_seekBusiest_52 rfl rfl rfl (Nat.le_of_ble_eq_true rfl) rfl ?_
  refine j_goto 24 dX1_seekBusiest_55 (by decide) ?_
  exact k0 
theorem b_X1_seekStop_0 {l : Launch} {G : jG} {μ : jM} {φ : jM → Prop} {ψ0 : Int32 → jM → Prop} (hG : gGG G) (hP : gPP μ) 
    (e0 : jC0 l mX1_isAnswered 0 G [.ref 57, .int 600] μ (pI ψ0)) 
    (k0 : ∀ v μ', ψ0 v μ' → J l mX1_seekStop (jZ0 6 G (pV φ)) G 0 0 7 [.ref 57] [.int v] μ') :
    J l mX1_seekStop (jZ0 6 G (pV φ)) G 0 0 0 [.ref 57] [] μ := by
  refine j_aload_n dX1_seekStop_0 rfl rfl ?_
  refine j_sipush 600 dX1_seekStop_1 rfl (by decide) ?_
  refine j_cV (as := [.int 600]) (rest := []) dX1_seekStop_4 rfl vw_X1_54 (hG 57 (6, 9) rfl) rfl ⟨Nat.le_of_ble_eq_true rfl, Nat.le_of_ble_eq_true rfl⟩ rfl rfl (fun _ _ => Nat.le_of_ble_eq_true rfl) (e0 ) (fun r μ' hr => ?_)
  obtain ⟨v, rfl, hr⟩ := hr
  exact k0  v μ' hr
theorem b_X1_seekStop_7 {l : Launch} {G : jG} {μ : jM} {φ : jM → Prop} {z0 : Int32} {ψ0 : jM → Prop} (hG : gGG G) (hP : gPP μ) 
    (e0 : (z0 = (0 : Int32)) → jC0 l mX1_findOpenRoads 4 G [.ref 57] μ (pV ψ0)) 
    (k0 : (z0 = (0 : Int32)) → ∀ μ', ψ0 μ' → J l mX1_seekStop (jZ0 6 G (pV φ)) G 0 0 15 [.ref 57] [] μ') 
    (k1 : (¬ (z0 = (0 : Int32))) → φ μ) :
    J l mX1_seekStop (jZ0 6 G (pV φ)) G 0 0 7 [.ref 57] [.int z0] μ := by
  refine j_if_eq 11 dX1_seekStop_7 rfl (by decide) (fun c0 => ?_) (fun c0 => ?_)
  · skip
    refine j_aload_n dX1_seekStop_11 rfl rfl ?_
    refine j_cV (as := []) (rest := []) dX1_seekStop_12 rfl vw_X1_91 (hG 57 (6, 9) rfl) rfl ⟨Nat.le_of_ble_eq_true rfl, Nat.le_of_ble_eq_true rfl⟩ rfl rfl (fun _ _ => Nat.le_of_ble_eq_true rfl) (e0 c0) (fun r μ' hr => ?_)
    obtain ⟨rfl, hr⟩ := hr
    exact k0 c0 μ' hr
  · skip
    exact j_vret dX1_seekStop_10 rfl (k1 c0)
theorem b_X1_seekStop_15 {l : Launch} {G : jG} {μ : jM} {φ : jM → Prop} {ψ0 : Int32 → jM → Prop} (hG : gGG G) (hP : gPP μ) 
    (e0 : jC0 l mX1_fewestGates 5 G [.ref 57] μ (pI ψ0)) 
    (k0 : ∀ v μ', ψ0 v μ' → J l mX1_seekStop (jZ0 6 G (pV φ)) G 0 0 20 [.ref 57] [.int v, .ref 57] μ') :
    J l mX1_seekStop (jZ0 6 G (pV φ)) G 0 0 15 [.ref 57] [] μ := by
  refine j_aload_n dX1_seekStop_15 rfl rfl ?_
  refine j_aload_n dX1_seekStop_16 rfl rfl ?_
  refine j_cV (as := []) (rest := [.ref 57]) dX1_seekStop_17 rfl vw_X1_94 (hG 57 (6, 9) rfl) rfl ⟨Nat.le_of_ble_eq_true rfl, Nat.le_of_ble_eq_true rfl⟩ rfl rfl (fun _ _ => Nat.le_of_ble_eq_true rfl) (e0 ) (fun r μ' hr => ?_)
  obtain ⟨v, rfl, hr⟩ := hr
  exact k0  v μ' hr
theorem b_X1_seekStop_20 {l : Launch} {G : jG} {μ : jM} {φ : jM → Prop} {z0 : Int32} {ψ0 : Int32 → jM → Prop} (hG : gGG G) (hP : gPP μ) 
    (e0 : jC0 l mJI_bitCount 0 G [.int z0] (wI μ 57 1 z0) (pI ψ0)) 
    (k0 : ∀ v μ', ψ0 v μ' → J l mX1_seekStop (jZ0 6 G (pV φ)) G 0 0 31 [.null] [.int v, .ref 57] μ') :
    J l mX1_seekStop (jZ0 6 G (pV φ)) G 0 0 20 [.ref 57] [.int z0, .ref 57] μ := by
  refine j_putI (ci := 1) (N := 9) (f := 1) (T := TX1) dX1_seekStop_20 rfl (hG 57 (6, 9) rfl) rfl (by decide) fl_X1_98 rfl rfl ?_
  refine j_aload_n dX1_seekStop_23 rfl rfl ?_
  refine j_aload_n dX1_seekStop_24 rfl rfl ?_
  refine j_getI (ci := 1) (N := 9) (f := 1) (T := TX1) dX1_seekStop_25 rfl (hG 57 (6, 9) rfl) rfl (by decide) fl_X1_98 rfl ?_
  refine j_cS (as := [.int z0]) (rest := [.ref 57]) dX1_seekStop_28 rfl vw_X1_67 ⟨Nat.le_of_ble_eq_true rfl, Nat.le_of_ble_eq_true rfl⟩ rfl rfl (fun _ _ => Nat.le_of_ble_eq_true rfl) (e0 ) (fun r μ' hr => ?_)
  obtain ⟨v, rfl, hr⟩ := hr
  refine j_forget (ls' := [.null]) ⟨Or.inl rfl, trivial⟩ ?_
  exact k0  v μ' hr
theorem b_X1_seekStop_31 {l : Launch} {G : jG} {μ : jM} {φ : jM → Prop} {z0 : Int32} (hG : gGG G) (hP : gPP μ) 
    (k0 : φ (wI μ 57 0 z0)) :
    J l mX1_seekStop (jZ0 6 G (pV φ)) G 0 0 31 [.null] [.int z0, .ref 57] μ := by
  refine j_putI (ci := 1) (N := 9) (f := 0) (T := TX1) dX1_seekStop_31 rfl (hG 57 (6, 9) rfl) rfl (by decide) fl_X1_101 rfl rfl ?_
  exact j_vret dX1_seekStop_34 rfl (k0 )
theorem b_X1_costWithoutGates_0 {l : Launch} {G : jG} {μ : jM} {φ : Int32 → jM → Prop} {x1 : Int32} {ψ0 : jM → Prop} (hG : gGG G) (hP : gPP μ) 
    (e0 : jC0 l mX1_startAnew 2 G [.ref 57] μ (pV ψ0)) 
    (k0 : ∀ μ', ψ0 μ' → J l mX1_costWithoutGates (jZ0 4 G (pI φ)) G 0 0 4 [.ref 57, .int x1] [] μ') :
    J l mX1_costWithoutGates (jZ0 4 G (pI φ)) G 0 0 0 [.ref 57, .int x1] [] μ := by
  refine j_aload_n dX1_costWithoutGates_0 rfl rfl ?_
  refine j_cV (as := []) (rest := []) dX1_costWithoutGates_1 rfl vw_X1_73 (hG 57 (6, 9) rfl) rfl ⟨Nat.le_of_ble_eq_true rfl, Nat.le_of_ble_eq_true rfl⟩ rfl rfl (fun _ _ => Nat.le_of_ble_eq_true rfl) (e0 ) (fun r μ' hr => ?_)
  obtain ⟨rfl, hr⟩ := hr
  exact k0  μ' hr
theorem b_X1_costWithoutGates_4 {l : Launch} {G : jG} {μ : jM} {φ : Int32 → jM → Prop} {x1 : Int32} {ψ0 : jM → Prop} (hG : gGG G) (hP : gPP μ) 
    (e0 : jC0 l mX10_enter 3 G [.ref 12, .ref 58] (wI μ 59 4 0) (pV ψ0)) 
    (k0 : ∀ μ', ψ0 μ' → J l mX1_costWithoutGates (jZ0 4 G (pI φ)) G 0 0 25 [.ref 57, .int x1] [] μ') :
    J l mX1_costWithoutGates (jZ0 4 G (pI φ)) G 0 0 4 [.ref 57, .int x1] [] μ := by
  refine j_aload_n dX1_costWithoutGates_4 rfl rfl ?_
  refine j_getR (ci := 1) (N := 9) (f := 5) (T := TX1) 58 dX1_costWithoutGates_5 rfl (hG 57 (6, 9) rfl) rfl (by decide) fl_X1_18 rfl (hP 57 5 58 rfl) ?_
  refine j_getR (ci := 5) (N := 1) (f := 0) (T := TX5) 59 dX1_costWithoutGates_8 rfl (hG 58 (10, 1) rfl) rfl (by decide) fl_X1_51 rfl (hP 58 0 59 rfl) ?_
  refine j_iconst 4 dX1_costWithoutGates_11 rfl (by decide) ?_
  refine j_iconst 0 dX1_costWithoutGates_12 rfl (by decide) ?_
  refine j_iast' (j := 4) dX1_costWithoutGates_13 rfl (hG 59 (0, 71) rfl) (vpK (by decide)) (by decide) ?_
  refine j_aload_n dX1_costWithoutGates_14 rfl rfl ?_
  refine j_getR (ci := 1) (N := 9) (f := 3) (T := TX1) 12 dX1_costWithoutGates_15 rfl (hG 57 (6, 9) rfl) rfl (by decide) fl_X1_32 rfl (hP 57 3 12 rfl) ?_
  refine j_aload_n dX1_costWithoutGates_18 rfl rfl ?_
  refine j_getR (ci := 1) (N := 9) (f := 5) (T := TX1) 58 dX1_costWithoutGates_19 rfl (hG 57 (6, 9) rfl) rfl (by decide) fl_X1_18 rfl (hP 57 5 58 rfl) ?_
  refine j_cV (as := [.ref 58]) (rest := []) dX1_costWithoutGates_22 rfl vw_X1_43 (hG 12 (15, 11) rfl) rfl ⟨Nat.le_of_ble_eq_true rfl, Nat.le_of_ble_eq_true rfl⟩ rfl rfl (fun _ _ => Nat.le_of_ble_eq_true rfl) (e0 ) (fun r μ' hr => ?_)
  obtain ⟨rfl, hr⟩ := hr
  exact k0  μ' hr
theorem b_X1_costWithoutGates_25 {l : Launch} {G : jG} {μ : jM} {φ : Int32 → jM → Prop} {x1 : Int32} {ψ0 : Int32 → jM → Prop} (hG : gGG G) (hP : gPP μ) 
    (e0 : jC0 l mX10_findWay 3 G [.ref 12, .int x1] μ (pI ψ0)) 
    (k0 : ∀ v μ', ψ0 v μ' → J l mX1_costWithoutGates (jZ0 4 G (pI φ)) G 0 0 33 [.ref 57, .int x1] [.int v] μ') :
    J l mX1_costWithoutGates (jZ0 4 G (pI φ)) G 0 0 25 [.ref 57, .int x1] [] μ := by
  refine j_aload_n dX1_costWithoutGates_25 rfl rfl ?_
  refine j_getR (ci := 1) (N := 9) (f := 3) (T := TX1) 12 dX1_costWithoutGates_26 rfl (hG 57 (6, 9) rfl) rfl (by decide) fl_X1_32 rfl (hP 57 3 12 rfl) ?_
  refine j_iload_n dX1_costWithoutGates_29 rfl rfl ?_
  refine j_cV (as := [.int x1]) (rest := []) dX1_costWithoutGates_30 rfl vw_X1_104 (hG 12 (15, 11) rfl) rfl ⟨Nat.le_of_ble_eq_true rfl, Nat.le_of_ble_eq_true rfl⟩ rfl rfl (fun _ _ => Nat.le_of_ble_eq_true rfl) (e0 ) (fun r μ' hr => ?_)
  obtain ⟨v, rfl, hr⟩ := hr
  exact k0  v μ' hr
theorem b_X1_costWithoutGates_33 {l : Launch} {G : jG} {μ : jM} {φ : Int32 → jM → Prop} {x1 z0 : Int32} {y : Nat} (hG : gGG G) (hP : gPP μ) (hy : tO gWay pWay G μ y) 
    (o0 : vp_in x1 7) 
    (o1 : μ.2.2 13 (Int32.toNatClampNeg x1) = some y) 
    (k0 : φ (μ.1 y 6) μ) :
    J l mX1_costWithoutGates (jZ0 4 G (pI φ)) G 0 0 33 [.ref 57, .int x1] [.int z0] μ := by
  refine j_pop dX1_costWithoutGates_33 rfl (fun _ _ => rfl) ?_
  refine j_aload_n dX1_costWithoutGates_34 rfl rfl ?_
  refine j_getR (ci := 1) (N := 9) (f := 3) (T := TX1) 12 dX1_costWithoutGates_35 rfl (hG 57 (6, 9) rfl) rfl (by decide) fl_X1_32 rfl (hP 57 3 12 rfl) ?_
  refine j_getR (ci := 10) (N := 11) (f := 3) (T := TX10) 13 dX1_costWithoutGates_38 rfl (hG 12 (15, 11) rfl) rfl (by decide) fl_X1_107 rfl (hP 12 3 13 rfl) ?_
  refine j_iload_n dX1_costWithoutGates_41 rfl rfl ?_
  refine j_aald' (j := (Int32.toNatClampNeg x1)) dX1_costWithoutGates_42 rfl (hG 13 (4, 7) rfl) o0 rfl o1 ?_
  refine j_getI (ci := 9) (N := 9) (f := 6) (T := TX9) dX1_costWithoutGates_43 rfl (hy.1 0 (14, 9) rfl) rfl (by decide) fl_X1_111 rfl ?_
  exact j_iret dX1_costWithoutGates_46 rfl (k0 )
theorem b_X1_takeByKeepers_0 {l : Launch} {G : jG} {μ : jM} {φ : jM → Prop} {x1 : Int32} {ψ0 : Int32 → jM → Prop} (hG : gGG G) (hP : gPP μ) 
    (e0 : jC0 l mX1_isAnswered 0 G [.ref 57, .int (400 + x1)] μ (pI ψ0)) 
    (k0 : ∀ v μ', ψ0 v μ' → J l mX1_takeByKeepers (jZ0 6 G (pV φ)) G 0 0 9 [.ref 57, .int x1, .null, .null, .null] [.int v] μ') :
    J l mX1_takeByKeepers (jZ0 6 G (pV φ)) G 0 0 0 [.ref 57, .int x1, .null, .null, .null] [] μ := by
  refine j_aload_n dX1_takeByKeepers_0 rfl rfl ?_
  refine j_sipush 400 dX1_takeByKeepers_1 rfl (by decide) ?_
  refine j_iload_n dX1_takeByKeepers_4 rfl rfl ?_
  refine j_iadd dX1_takeByKeepers_5 rfl ?_
  refine j_cV (as := [.int (400 + x1)]) (rest := []) dX1_takeByKeepers_6 rfl vw_X1_54 (hG 57 (6, 9) rfl) rfl ⟨Nat.le_of_ble_eq_true rfl, Nat.le_of_ble_eq_true rfl⟩ rfl rfl (fun _ _ => Nat.le_of_ble_eq_true rfl) (e0 ) (fun r μ' hr => ?_)
  obtain ⟨v, rfl, hr⟩ := hr
  exact k0  v μ' hr
theorem b_X1_takeByKeepers_9 {l : Launch} {G : jG} {μ : jM} {φ : jM → Prop} {x1 z0 : Int32} (hG : gGG G) (hP : gPP μ) 
    (k0 : (z0 = (0 : Int32)) → J l mX1_takeByKeepers (jZ0 6 G (pV φ)) G 0 0 15 [.ref 57, .int x1, .int 0, .null, .null] [] μ) 
    (k1 : (¬ (z0 = (0 : Int32))) → φ μ) :
    J l mX1_takeByKeepers (jZ0 6 G (pV φ)) G 0 0 9 [.ref 57, .int x1, .null, .null, .null] [.int z0] μ := by
  refine j_if_eq 13 dX1_takeByKeepers_9 rfl (by decide) (fun c0 => ?_) (fun c0 => ?_)
  · skip
    refine j_iconst 0 dX1_takeByKeepers_13 rfl (by decide) ?_
    refine j_istore_n (ls' := [.ref 57, .int x1, .int 0, .null, .null]) dX1_takeByKeepers_14 rfl rfl (Nat.le_of_ble_eq_true rfl) rfl ?_
    exact k0 c0
  · skip
    exact j_vret dX1_takeByKeepers_12 rfl (k1 c0)
theorem b_X1_takeByKeepers_15 {l : Launch} {G : jG} {μ : jM} {φ : jM → Prop} {x1 x2 : Int32} {ψ1 : jM → Prop} (hG : gGG G) (hP : gPP μ) 
    (k0 : (16 ≤ (x2 : Int32)) → φ μ) 
    (e1 : (¬ (16 ≤ (x2 : Int32))) → jC0 l mX1_startAnew 2 G [.ref 57] μ (pV ψ1)) 
    (k1 : (¬ (16 ≤ (x2 : Int32))) → ∀ μ', ψ1 μ' → J l mX1_takeByKeepers (jZ0 6 G (pV φ)) G 0 0 25 [.ref 57, .int x1, .int x2, .null, .null] [] μ') :
    J l mX1_takeByKeepers (jZ0 6 G (pV φ)) G 0 0 15 [.ref 57, .int x1, .int x2, .null, .null] [] μ := by
  refine j_iload_n dX1_takeByKeepers_15 rfl rfl ?_
  refine j_bipush 16 dX1_takeByKeepers_16 rfl (by decide) ?_
  refine j_icmp_ge 101 dX1_takeByKeepers_18 rfl (by decide) (fun c0 => ?_) (fun c0 => ?_)
  · skip
    exact j_vret dX1_takeByKeepers_101 rfl (k0 c0)
  · skip
    refine j_aload_n dX1_takeByKeepers_21 rfl rfl ?_
    refine j_cV (as := []) (rest := []) dX1_takeByKeepers_22 rfl vw_X1_73 (hG 57 (6, 9) rfl) rfl ⟨Nat.le_of_ble_eq_true rfl, Nat.le_of_ble_eq_true rfl⟩ rfl rfl (fun _ _ => Nat.le_of_ble_eq_true rfl) (e1 c0) (fun r μ' hr => ?_)
    obtain ⟨rfl, hr⟩ := hr
    exact k1 c0 μ' hr
theorem b_X1_takeByKeepers_25 {l : Launch} {G : jG} {μ : jM} {φ : jM → Prop} {x1 x2 : Int32} {ψ0 : jM → Prop} (hG : gGG G) (hP : gPP μ) 
    (e0 : jC0 l mX5_setRates 0 G [.ref 58, .int (x2 / 4), .int (x2 - x2 / 4 * 4)] μ (pV ψ0)) 
    (k0 : ∀ μ', ψ0 μ' → J l mX1_takeByKeepers (jZ0 6 G (pV φ)) G 0 0 38 [.ref 57, .int x1, .int x2, .null, .null] [] μ') :
    J l mX1_takeByKeepers (jZ0 6 G (pV φ)) G 0 0 25 [.ref 57, .int x1, .int x2, .null, .null] [] μ := by
  refine j_aload_n dX1_takeByKeepers_25 rfl rfl ?_
  refine j_getR (ci := 1) (N := 9) (f := 5) (T := TX1) 58 dX1_takeByKeepers_26 rfl (hG 57 (6, 9) rfl) rfl (by decide) fl_X1_18 rfl (hP 57 5 58 rfl) ?_
  refine j_iload_n dX1_takeByKeepers_29 rfl rfl ?_
  refine j_iconst 4 dX1_takeByKeepers_30 rfl (by decide) ?_
  refine j_idiv dX1_takeByKeepers_31 rfl (by decide) ?_
  refine j_iload_n dX1_takeByKeepers_32 rfl rfl ?_
  refine j_iconst 4 dX1_takeByKeepers_33 rfl (by decide) ?_
  refine j_irem dX1_takeByKeepers_34 rfl (by decide) ?_
  refine j_cV (as := [.int (x2 / 4), .int (x2 - x2 / 4 * 4)]) (rest := []) dX1_takeByKeepers_35 rfl vw_X1_88 (hG 58 (10, 1) rfl) rfl ⟨Nat.le_of_ble_eq_true rfl, Nat.le_of_ble_eq_true rfl⟩ rfl rfl (fun _ _ => Nat.le_of_ble_eq_true rfl) (e0 ) (fun r μ' hr => ?_)
  obtain ⟨rfl, hr⟩ := hr
  exact k0  μ' hr
theorem b_X1_takeByKeepers_38 {l : Launch} {G : jG} {μ : jM} {φ : jM → Prop} {x1 x2 : Int32} {ψ0 : jM → Prop} (hG : gGG G) (hP : gPP μ) 
    (e0 : jC0 l mX1_run 5 G [.ref 57, .int x1] μ (pV ψ0)) 
    (k0 : ∀ μ', ψ0 μ' → J l mX1_takeByKeepers (jZ0 6 G (pV φ)) G 0 0 43 [.ref 57, .int x1, .int x2, .null, .null] [] μ') :
    J l mX1_takeByKeepers (jZ0 6 G (pV φ)) G 0 0 38 [.ref 57, .int x1, .int x2, .null, .null] [] μ := by
  refine j_aload_n dX1_takeByKeepers_38 rfl rfl ?_
  refine j_iload_n dX1_takeByKeepers_39 rfl rfl ?_
  refine j_cV (as := [.int x1]) (rest := []) dX1_takeByKeepers_40 rfl vw_X1_76 (hG 57 (6, 9) rfl) rfl ⟨Nat.le_of_ble_eq_true rfl, Nat.le_of_ble_eq_true rfl⟩ rfl rfl (fun _ _ => Nat.le_of_ble_eq_true rfl) (e0 ) (fun r μ' hr => ?_)
  obtain ⟨rfl, hr⟩ := hr
  exact k0  μ' hr
theorem b_X1_takeByKeepers_43 {l : Launch} {G : jG} {μ : jM} {φ : jM → Prop} {x1 x2 : Int32} (hG : gGG G) (hP : gPP μ) 
    (k0 : J l mX1_takeByKeepers (jZ0 6 G (pV φ)) G 0 0 48 [.ref 57, .int x1, .int x2, .int 0, .int 0] [] μ) :
    J l mX1_takeByKeepers (jZ0 6 G (pV φ)) G 0 0 43 [.ref 57, .int x1, .int x2, .null, .null] [] μ := by
  refine j_iconst 0 dX1_takeByKeepers_43 rfl (by decide) ?_
  refine j_istore_n (ls' := [.ref 57, .int x1, .int x2, .int 0, .null]) dX1_takeByKeepers_44 rfl rfl (Nat.le_of_ble_eq_true rfl) rfl ?_
  refine j_iconst 0 dX1_takeByKeepers_45 rfl (by decide) ?_
  refine j_istore (ls' := [.ref 57, .int x1, .int x2, .int 0, .int 0]) dX1_takeByKeepers_46 rfl (Nat.le_of_ble_eq_true rfl) rfl ?_
  exact k0 
theorem b_X1_takeByKeepers_48 {l : Launch} {G : jG} {μ : jM} {φ : jM → Prop} {x1 x2 x3 x4 : Int32} {ψ0 : Int32 → jM → Prop} {ψ1 : Int32 → jM → Prop} (hG : gGG G) (hP : gPP μ) 
    (o0 : (12 ≤ (x4 : Int32)) → vp_in x2 16) 
    (e0 : (12 ≤ (x4 : Int32)) → jC0 l mX1_grown 0 G [.ref 57, .int 3, .int 1] (wI μ 60 (Int32.toNatClampNeg x2) x3) (pI ψ0)) 
    (k0 : (12 ≤ (x4 : Int32)) → ∀ v μ', ψ0 v μ' → J l mX1_takeByKeepers (jZ0 6 G (pV φ)) G 0 0 92 [.ref 57, .int x1, .int x2, .int x3, .null] [.int v, .int x2, .ref 61] μ') 
    (e1 : (¬ (12 ≤ (x4 : Int32))) → jC0 l mX1_grown 0 G [.ref 57, .int (31 + x4), .int 1] μ (pI ψ1)) 
    (k1 : (¬ (12 ≤ (x4 : Int32))) → ∀ v μ', ψ1 v μ' → J l mX1_takeByKeepers (jZ0 6 G (pV φ)) G 0 0 66 [.ref 57, .int x1, .int x2, .null, .int x4] [.int v, .int x3] μ') :
    J l mX1_takeByKeepers (jZ0 6 G (pV φ)) G 0 0 48 [.ref 57, .int x1, .int x2, .int x3, .int x4] [] μ := by
  refine j_iload dX1_takeByKeepers_48 rfl rfl ?_
  refine j_bipush 12 dX1_takeByKeepers_50 rfl (by decide) ?_
  refine j_icmp_ge 74 dX1_takeByKeepers_52 rfl (by decide) (fun c0 => ?_) (fun c0 => ?_)
  · skip
    refine j_aload_n dX1_takeByKeepers_74 rfl rfl ?_
    refine j_getR (ci := 1) (N := 9) (f := 6) (T := TX1) 60 dX1_takeByKeepers_75 rfl (hG 57 (6, 9) rfl) rfl (by decide) fl_X1_22 rfl (hP 57 6 60 rfl) ?_
    refine j_iload_n dX1_takeByKeepers_78 rfl rfl ?_
    refine j_iload_n dX1_takeByKeepers_79 rfl rfl ?_
    refine j_iast' (j := (Int32.toNatClampNeg x2)) dX1_takeByKeepers_80 rfl (hG 60 (0, 16) rfl) (o0 c0) rfl ?_
    refine j_aload_n dX1_takeByKeepers_81 rfl rfl ?_
    refine j_getR (ci := 1) (N := 9) (f := 7) (T := TX1) 61 dX1_takeByKeepers_82 rfl (hG 57 (6, 9) rfl) rfl (by decide) fl_X1_26 rfl (hP 57 7 61 rfl) ?_
    refine j_iload_n dX1_takeByKeepers_85 rfl rfl ?_
    refine j_aload_n dX1_takeByKeepers_86 rfl rfl ?_
    refine j_iconst 3 dX1_takeByKeepers_87 rfl (by decide) ?_
    refine j_iconst 1 dX1_takeByKeepers_88 rfl (by decide) ?_
    refine j_cV (as := [.int 3, .int 1]) (rest := [.int x2, .ref 61]) dX1_takeByKeepers_89 rfl vw_X1_80 (hG 57 (6, 9) rfl) rfl ⟨Nat.le_of_ble_eq_true rfl, Nat.le_of_ble_eq_true rfl⟩ rfl rfl (fun _ _ => Nat.le_of_ble_eq_true rfl) (e0 c0) (fun r μ' hr => ?_)
    obtain ⟨v, rfl, hr⟩ := hr
    refine j_forget (ls' := [.ref 57, .int x1, .int x2, .int x3, .null]) ⟨Or.inr rfl, Or.inr rfl, Or.inr rfl, Or.inr rfl, Or.inl rfl, trivial⟩ ?_
    exact k0 c0 v μ' hr
  · skip
    refine j_iload_n dX1_takeByKeepers_55 rfl rfl ?_
    refine j_aload_n dX1_takeByKeepers_56 rfl rfl ?_
    refine j_bipush 31 dX1_takeByKeepers_57 rfl (by decide) ?_
    refine j_iload dX1_takeByKeepers_59 rfl rfl ?_
    refine j_iadd dX1_takeByKeepers_61 rfl ?_
    refine j_iconst 1 dX1_takeByKeepers_62 rfl (by decide) ?_
    refine j_cV (as := [.int (31 + x4), .int 1]) (rest := [.int x3]) dX1_takeByKeepers_63 rfl vw_X1_80 (hG 57 (6, 9) rfl) rfl ⟨Nat.le_of_ble_eq_true rfl, Nat.le_of_ble_eq_true rfl⟩ rfl rfl (fun _ _ => Nat.le_of_ble_eq_true rfl) (e1 c0) (fun r μ' hr => ?_)
    obtain ⟨v, rfl, hr⟩ := hr
    refine j_forget (ls' := [.ref 57, .int x1, .int x2, .null, .int x4]) ⟨Or.inr rfl, Or.inr rfl, Or.inr rfl, Or.inl rfl, Or.inr rfl, trivial⟩ ?_
    exact k1 c0 v μ' hr
theorem b_X1_takeByKeepers_66 {l : Launch} {G : jG} {μ : jM} {φ : jM → Prop} {x1 x2 x4 z0 z1 : Int32} (hG : gGG G) (hP : gPP μ) 
    (k0 : J l mX1_takeByKeepers (jZ0 6 G (pV φ)) G 0 0 48 [.ref 57, .int x1, .int x2, .int (z1 + z0), .int (x4 + 2)] [] μ) :
    J l mX1_takeByKeepers (jZ0 6 G (pV φ)) G 0 0 66 [.ref 57, .int x1, .int x2, .null, .int x4] [.int z0, .int z1] μ := by
  refine j_iadd dX1_takeByKeepers_66 rfl ?_
  refine j_istore_n (ls' := [.ref 57, .int x1, .int x2, .int (z1 + z0), .int x4]) dX1_takeByKeepers_67 rfl rfl (Nat.le_of_ble_eq_true rfl) rfl ?_
  refine j_iinc (x4 + 2) (ls' := [.ref 57, .int x1, .int x2, .int (z1 + z0), .int (x4 + 2)]) dX1_takeByKeepers_68 rfl rfl rfl (Nat.le_of_ble_eq_true rfl) rfl ?_
  refine j_goto 48 dX1_takeByKeepers_71 (by decide) ?_
  exact k0 
theorem b_X1_takeByKeepers_92 {l : Launch} {G : jG} {μ : jM} {φ : jM → Prop} {x1 x2 x3 z0 z1 : Int32} (hG : gGG G) (hP : gPP μ) 
    (o0 : vp_in z1 16) 
    (k0 : J l mX1_takeByKeepers (jZ0 6 G (pV φ)) G 0 0 15 [.ref 57, .int x1, .int (x2 + 1), .null, .null] [] (wI μ 61 (Int32.toNatClampNeg z1) (z0 - x3))) :
    J l mX1_takeByKeepers (jZ0 6 G (pV φ)) G 0 0 92 [.ref 57, .int x1, .int x2, .int x3, .null] [.int z0, .int z1, .ref 61] μ := by
  refine j_iload_n dX1_takeByKeepers_92 rfl rfl ?_
  refine j_isub dX1_takeByKeepers_93 rfl ?_
  refine j_iast' (j := (Int32.toNatClampNeg z1)) dX1_takeByKeepers_94 rfl (hG 61 (0, 16) rfl) o0 rfl ?_
  refine j_iinc (x2 + 1) (ls' := [.ref 57, .int x1, .int (x2 + 1), .int x3, .null]) dX1_takeByKeepers_95 rfl rfl rfl (Nat.le_of_ble_eq_true rfl) rfl ?_
  refine j_goto 15 dX1_takeByKeepers_98 (by decide) ?_
  refine j_forget (ls' := [.ref 57, .int x1, .int (x2 + 1), .null, .null]) ⟨Or.inr rfl, Or.inr rfl, Or.inr rfl, Or.inl rfl, Or.inr rfl, trivial⟩ ?_
  exact k0 
theorem b_X1_rest_0 {l : Launch} {G : jG} {μ : jM} {φ : Int32 → jM → Prop} {x1 : Int32} (hG : gGG G) (hP : gPP μ) 
    (k0 : J l mX1_rest (jZ0 1 G (pI φ)) G 0 0 4 [.ref 57, .int x1, .int 0, .int 0] [] μ) :
    J l mX1_rest (jZ0 1 G (pI φ)) G 0 0 0 [.ref 57, .int x1, .null, .null] [] μ := by
  refine j_iconst 0 dX1_rest_0 rfl (by decide) ?_
  refine j_istore_n (ls' := [.ref 57, .int x1, .int 0, .null]) dX1_rest_1 rfl rfl (Nat.le_of_ble_eq_true rfl) rfl ?_
  refine j_iconst 0 dX1_rest_2 rfl (by decide) ?_
  refine j_istore_n (ls' := [.ref 57, .int x1, .int 0, .int 0]) dX1_rest_3 rfl rfl (Nat.le_of_ble_eq_true rfl) rfl ?_
  exact k0 
theorem b_X1_rest_4 {l : Launch} {G : jG} {μ : jM} {φ : Int32 → jM → Prop} {x1 x2 x3 : Int32} {ψ2 : Int32 → jM → Prop} (hG : gGG G) (hP : gPP μ) 
    (k0 : (16 ≤ (x3 : Int32)) → (¬ x1 = ((-1) : Int32)) → φ (-1) μ) 
    (k1 : (16 ≤ (x3 : Int32)) → (x1 = ((-1) : Int32)) → φ x2 μ) 
    (e2 : (¬ (16 ≤ (x3 : Int32))) → jC0 l mX1_bothRest 0 G [.ref 57, .int x3] μ (pI ψ2)) 
    (k2 : (¬ (16 ≤ (x3 : Int32))) → ∀ v μ', ψ2 v μ' → J l mX1_rest (jZ0 1 G (pI φ)) G 0 0 15 [.ref 57, .int x1, .int x2, .int x3] [.int v] μ') :
    J l mX1_rest (jZ0 1 G (pI φ)) G 0 0 4 [.ref 57, .int x1, .int x2, .int x3] [] μ := by
  refine j_iload_n dX1_rest_4 rfl rfl ?_
  refine j_bipush 16 dX1_rest_5 rfl (by decide) ?_
  refine j_icmp_ge 43 dX1_rest_7 rfl (by decide) (fun c0 => ?_) (fun c0 => ?_)
  · skip
    refine j_iload_n dX1_rest_43 rfl rfl ?_
    refine j_iconst (-1) dX1_rest_44 rfl (by decide) ?_
    refine j_icmp_ne 52 dX1_rest_45 rfl (by decide) (fun c1 => ?_) (fun c1 => ?_)
    · skip
      refine j_iconst (-1) dX1_rest_52 rfl (by decide) ?_
      exact j_iret dX1_rest_53 rfl (k0 c0 c1)
    · skip
      refine j_iload_n dX1_rest_48 rfl rfl ?_
      refine j_goto 53 dX1_rest_49 (by decide) ?_
      exact j_iret dX1_rest_53 rfl (k1 c0 c1)
  · skip
    refine j_aload_n dX1_rest_10 rfl rfl ?_
    refine j_iload_n dX1_rest_11 rfl rfl ?_
    refine j_cV (as := [.int x3]) (rest := []) dX1_rest_12 rfl vw_X1_116 (hG 57 (6, 9) rfl) rfl ⟨Nat.le_of_ble_eq_true rfl, Nat.le_of_ble_eq_true rfl⟩ rfl rfl (fun _ _ => Nat.le_of_ble_eq_true rfl) (e2 c0) (fun r μ' hr => ?_)
    obtain ⟨v, rfl, hr⟩ := hr
    exact k2 c0 v μ' hr
theorem b_X1_rest_15 {l : Launch} {G : jG} {μ : jM} {φ : Int32 → jM → Prop} {x1 x2 x3 z0 : Int32} (hG : gGG G) (hP : gPP μ) 
    (k0 : (z0 = (0 : Int32)) → J l mX1_rest (jZ0 1 G (pI φ)) G 0 0 4 [.ref 57, .int x1, .int x2, .int (x3 + 1)] [] μ) 
    (k1 : (¬ (z0 = (0 : Int32))) → (¬ x2 = (x1 : Int32)) → J l mX1_rest (jZ0 1 G (pI φ)) G 0 0 4 [.ref 57, .int x1, .int (x2 + 1), .int (x3 + 1)] [] μ) 
    (k2 : (¬ (z0 = (0 : Int32))) → (x2 = (x1 : Int32)) → φ ((10 * (x3 / 4)) + (x3 - x3 / 4 * 4)) μ) :
    J l mX1_rest (jZ0 1 G (pI φ)) G 0 0 15 [.ref 57, .int x1, .int x2, .int x3] [.int z0] μ := by
  refine j_if_eq 37 dX1_rest_15 rfl (by decide) (fun c0 => ?_) (fun c0 => ?_)
  · skip
    refine j_iinc (x3 + 1) (ls' := [.ref 57, .int x1, .int x2, .int (x3 + 1)]) dX1_rest_37 rfl rfl rfl (Nat.le_of_ble_eq_true rfl) rfl ?_
    refine j_goto 4 dX1_rest_40 (by decide) ?_
    exact k0 c0
  · skip
    refine j_iload_n dX1_rest_18 rfl rfl ?_
    refine j_iload_n dX1_rest_19 rfl rfl ?_
    refine j_icmp_ne 34 dX1_rest_20 rfl (by decide) (fun c1 => ?_) (fun c1 => ?_)
    · skip
      refine j_iinc (x2 + 1) (ls' := [.ref 57, .int x1, .int (x2 + 1), .int x3]) dX1_rest_34 rfl rfl rfl (Nat.le_of_ble_eq_true rfl) rfl ?_
      refine j_iinc (x3 + 1) (ls' := [.ref 57, .int x1, .int (x2 + 1), .int (x3 + 1)]) dX1_rest_37 rfl rfl rfl (Nat.le_of_ble_eq_true rfl) rfl ?_
      refine j_goto 4 dX1_rest_40 (by decide) ?_
      exact k1 c0 c1
    · skip
      refine j_bipush 10 dX1_rest_23 rfl (by decide) ?_
      refine j_iload_n dX1_rest_25 rfl rfl ?_
      refine j_iconst 4 dX1_rest_26 rfl (by decide) ?_
      refine j_idiv dX1_rest_27 rfl (by decide) ?_
      refine j_imul dX1_rest_28 rfl ?_
      refine j_iload_n dX1_rest_29 rfl rfl ?_
      refine j_iconst 4 dX1_rest_30 rfl (by decide) ?_
      refine j_irem dX1_rest_31 rfl (by decide) ?_
      refine j_iadd dX1_rest_32 rfl ?_
      exact j_iret dX1_rest_33 rfl (k2 c0 c1)
theorem b_X1_nightsUntilBroken_0 {l : Launch} {G : jG} {μ : jM} {φ : Int32 → jM → Prop} {x1 : Int32} {ψ0 : jM → Prop} (hG : gGG G) (hP : gPP μ) 
    (e0 : jC0 l mX1_startAnew 2 G [.ref 57] μ (pV ψ0)) 
    (k0 : ∀ μ', ψ0 μ' → J l mX1_nightsUntilBroken (jZ0 5 G (pI φ)) G 0 0 4 [.ref 57, .int x1, .null] [] μ') :
    J l mX1_nightsUntilBroken (jZ0 5 G (pI φ)) G 0 0 0 [.ref 57, .int x1, .null] [] μ := by
  refine j_aload_n dX1_nightsUntilBroken_0 rfl rfl ?_
  refine j_cV (as := []) (rest := []) dX1_nightsUntilBroken_1 rfl vw_X1_73 (hG 57 (6, 9) rfl) rfl ⟨Nat.le_of_ble_eq_true rfl, Nat.le_of_ble_eq_true rfl⟩ rfl rfl (fun _ _ => Nat.le_of_ble_eq_true rfl) (e0 ) (fun r μ' hr => ?_)
  obtain ⟨rfl, hr⟩ := hr
  exact k0  μ' hr
theorem b_X1_nightsUntilBroken_4 {l : Launch} {G : jG} {μ : jM} {φ : Int32 → jM → Prop} {x1 : Int32} {ψ0 : jM → Prop} (hG : gGG G) (hP : gPP μ) 
    (e0 : jC0 l mX10_enter 3 G [.ref 12, .ref 58] μ (pV ψ0)) 
    (k0 : ∀ μ', ψ0 μ' → J l mX1_nightsUntilBroken (jZ0 5 G (pI φ)) G 0 0 15 [.ref 57, .int x1, .null] [] μ') :
    J l mX1_nightsUntilBroken (jZ0 5 G (pI φ)) G 0 0 4 [.ref 57, .int x1, .null] [] μ := by
  refine j_aload_n dX1_nightsUntilBroken_4 rfl rfl ?_
  refine j_getR (ci := 1) (N := 9) (f := 3) (T := TX1) 12 dX1_nightsUntilBroken_5 rfl (hG 57 (6, 9) rfl) rfl (by decide) fl_X1_32 rfl (hP 57 3 12 rfl) ?_
  refine j_aload_n dX1_nightsUntilBroken_8 rfl rfl ?_
  refine j_getR (ci := 1) (N := 9) (f := 5) (T := TX1) 58 dX1_nightsUntilBroken_9 rfl (hG 57 (6, 9) rfl) rfl (by decide) fl_X1_18 rfl (hP 57 5 58 rfl) ?_
  refine j_cV (as := [.ref 58]) (rest := []) dX1_nightsUntilBroken_12 rfl vw_X1_43 (hG 12 (15, 11) rfl) rfl ⟨Nat.le_of_ble_eq_true rfl, Nat.le_of_ble_eq_true rfl⟩ rfl rfl (fun _ _ => Nat.le_of_ble_eq_true rfl) (e0 ) (fun r μ' hr => ?_)
  obtain ⟨rfl, hr⟩ := hr
  exact k0  μ' hr
theorem b_X1_nightsUntilBroken_15 {l : Launch} {G : jG} {μ : jM} {φ : Int32 → jM → Prop} {x1 : Int32} (hG : gGG G) (hP : gPP μ) 
    (k0 : J l mX1_nightsUntilBroken (jZ0 5 G (pI φ)) G 0 0 17 [.ref 57, .int x1, .int 0] [] μ) :
    J l mX1_nightsUntilBroken (jZ0 5 G (pI φ)) G 0 0 15 [.ref 57, .int x1, .null] [] μ := by
  refine j_iconst 0 dX1_nightsUntilBroken_15 rfl (by decide) ?_
  refine j_istore_n (ls' := [.ref 57, .int x1, .int 0]) dX1_nightsUntilBroken_16 rfl rfl (Nat.le_of_ble_eq_true rfl) rfl ?_
  exact k0 
theorem b_X1_nightsUntilBroken_17 {l : Launch} {G : jG} {μ : jM} {φ : Int32 → jM → Prop} {x1 x2 : Int32} {ψ2 : jM → Prop} (hG : gGG G) (hP : gPP μ) 
    (k0 : (200 ≤ (x2 : Int32)) → ((((μ.1 12 4) >>> (x1 &&& 31)) &&& 1) = (0 : Int32)) → φ (-2) μ) 
    (k1 : (200 ≤ (x2 : Int32)) → (¬ ((((μ.1 12 4) >>> (x1 &&& 31)) &&& 1) = (0 : Int32))) → φ 200 μ) 
    (e2 : (¬ (200 ≤ (x2 : Int32))) → ((((μ.1 12 4) >>> (x1 &&& 31)) &&& 1) = (0 : Int32)) → jC0 l mX10_passNight 4 G [.ref 12] μ (pV ψ2)) 
    (k2 : (¬ (200 ≤ (x2 : Int32))) → ((((μ.1 12 4) >>> (x1 &&& 31)) &&& 1) = (0 : Int32)) → ∀ μ', ψ2 μ' → J l mX1_nightsUntilBroken (jZ0 5 G (pI φ)) G 0 0 47 [.ref 57, .int x1, .int x2] [] μ') 
    (k3 : (¬ (200 ≤ (x2 : Int32))) → (¬ ((((μ.1 12 4) >>> (x1 &&& 31)) &&& 1) = (0 : Int32))) → φ x2 μ) :
    J l mX1_nightsUntilBroken (jZ0 5 G (pI φ)) G 0 0 17 [.ref 57, .int x1, .int x2] [] μ := by
  refine j_iload_n dX1_nightsUntilBroken_17 rfl rfl ?_
  refine j_sipush 200 dX1_nightsUntilBroken_18 rfl (by decide) ?_
  refine j_icmp_ge 53 dX1_nightsUntilBroken_21 rfl (by decide) (fun c0 => ?_) (fun c0 => ?_)
  · skip
    refine j_aload_n dX1_nightsUntilBroken_53 rfl rfl ?_
    refine j_getR (ci := 1) (N := 9) (f := 3) (T := TX1) 12 dX1_nightsUntilBroken_54 rfl (hG 57 (6, 9) rfl) rfl (by decide) fl_X1_32 rfl (hP 57 3 12 rfl) ?_
    refine j_getI (ci := 10) (N := 11) (f := 4) (T := TX10) dX1_nightsUntilBroken_57 rfl (hG 12 (15, 11) rfl) rfl (by decide) fl_X1_119 rfl ?_
    refine j_iload_n dX1_nightsUntilBroken_60 rfl rfl ?_
    refine j_ishr dX1_nightsUntilBroken_61 rfl ?_
    refine j_iconst 1 dX1_nightsUntilBroken_62 rfl (by decide) ?_
    refine j_iand dX1_nightsUntilBroken_63 rfl ?_
    refine j_if_eq 73 dX1_nightsUntilBroken_64 rfl (by decide) (fun c1 => ?_) (fun c1 => ?_)
    · skip
      refine j_bipush (-2) dX1_nightsUntilBroken_73 rfl (by decide) ?_
      exact j_iret dX1_nightsUntilBroken_75 rfl (k0 c0 c1)
    · skip
      refine j_sipush 200 dX1_nightsUntilBroken_67 rfl (by decide) ?_
      refine j_goto 75 dX1_nightsUntilBroken_70 (by decide) ?_
      exact j_iret dX1_nightsUntilBroken_75 rfl (k1 c0 c1)
  · skip
    refine j_aload_n dX1_nightsUntilBroken_24 rfl rfl ?_
    refine j_getR (ci := 1) (N := 9) (f := 3) (T := TX1) 12 dX1_nightsUntilBroken_25 rfl (hG 57 (6, 9) rfl) rfl (by decide) fl_X1_32 rfl (hP 57 3 12 rfl) ?_
    refine j_getI (ci := 10) (N := 11) (f := 4) (T := TX10) dX1_nightsUntilBroken_28 rfl (hG 12 (15, 11) rfl) rfl (by decide) fl_X1_119 rfl ?_
    refine j_iload_n dX1_nightsUntilBroken_31 rfl rfl ?_
    refine j_ishr dX1_nightsUntilBroken_32 rfl ?_
    refine j_iconst 1 dX1_nightsUntilBroken_33 rfl (by decide) ?_
    refine j_iand dX1_nightsUntilBroken_34 rfl ?_
    refine j_if_eq 40 dX1_nightsUntilBroken_35 rfl (by decide) (fun c2 => ?_) (fun c2 => ?_)
    · skip
      refine j_aload_n dX1_nightsUntilBroken_40 rfl rfl ?_
      refine j_getR (ci := 1) (N := 9) (f := 3) (T := TX1) 12 dX1_nightsUntilBroken_41 rfl (hG 57 (6, 9) rfl) rfl (by decide) fl_X1_32 rfl (hP 57 3 12 rfl) ?_
      refine j_cV (as := []) (rest := []) dX1_nightsUntilBroken_44 rfl vw_X1_48 (hG 12 (15, 11) rfl) rfl ⟨Nat.le_of_ble_eq_true rfl, Nat.le_of_ble_eq_true rfl⟩ rfl rfl (fun _ _ => Nat.le_of_ble_eq_true rfl) (e2 c0 c2) (fun r μ' hr => ?_)
      obtain ⟨rfl, hr⟩ := hr
      exact k2 c0 c2 μ' hr
    · skip
      refine j_iload_n dX1_nightsUntilBroken_38 rfl rfl ?_
      exact j_iret dX1_nightsUntilBroken_39 rfl (k3 c0 c2)
theorem b_X1_nightsUntilBroken_47 {l : Launch} {G : jG} {μ : jM} {φ : Int32 → jM → Prop} {x1 x2 : Int32} (hG : gGG G) (hP : gPP μ) 
    (k0 : J l mX1_nightsUntilBroken (jZ0 5 G (pI φ)) G 0 0 17 [.ref 57, .int x1, .int (x2 + 1)] [] μ) :
    J l mX1_nightsUntilBroken (jZ0 5 G (pI φ)) G 0 0 47 [.ref 57, .int x1, .int x2] [] μ := by
  refine j_iinc (x2 + 1) (ls' := [.ref 57, .int x1, .int (x2 + 1)]) dX1_nightsUntilBroken_47 rfl rfl rfl (Nat.le_of_ble_eq_true rfl) rfl ?_
  refine j_goto 17 dX1_nightsUntilBroken_50 (by decide) ?_
  exact k0 
theorem b_X1_seekFirstBroken_0 {l : Launch} {G : jG} {μ : jM} {φ : jM → Prop} {ψ0 : Int32 → jM → Prop} (hG : gGG G) (hP : gPP μ) 
    (e0 : jC0 l mX1_isAnswered 0 G [.ref 57, .int 500] μ (pI ψ0)) 
    (k0 : ∀ v μ', ψ0 v μ' → J l mX1_seekFirstBroken (jZ0 5 G (pV φ)) G 0 0 7 [.ref 57, .null, .null, .null] [.int v] μ') :
    J l mX1_seekFirstBroken (jZ0 5 G (pV φ)) G 0 0 0 [.ref 57, .null, .null, .null] [] μ := by
  refine j_aload_n dX1_seekFirstBroken_0 rfl rfl ?_
  refine j_sipush 500 dX1_seekFirstBroken_1 rfl (by decide) ?_
  refine j_cV (as := [.int 500]) (rest := []) dX1_seekFirstBroken_4 rfl vw_X1_54 (hG 57 (6, 9) rfl) rfl ⟨Nat.le_of_ble_eq_true rfl, Nat.le_of_ble_eq_true rfl⟩ rfl rfl (fun _ _ => Nat.le_of_ble_eq_true rfl) (e0 ) (fun r μ' hr => ?_)
  obtain ⟨v, rfl, hr⟩ := hr
  exact k0  v μ' hr
theorem b_X1_seekFirstBroken_7 {l : Launch} {G : jG} {μ : jM} {φ : jM → Prop} {z0 : Int32} {ψ0 : jM → Prop} (hG : gGG G) (hP : gPP μ) 
    (e0 : (z0 = (0 : Int32)) → jC0 l mX1_startAnew 2 G [.ref 57] (wI (wI μ 57 0 (-2)) 57 1 (-2)) (pV ψ0)) 
    (k0 : (z0 = (0 : Int32)) → ∀ μ', ψ0 μ' → J l mX1_seekFirstBroken (jZ0 5 G (pV φ)) G 0 0 27 [.ref 57, .null, .null, .null] [] μ') 
    (k1 : (¬ (z0 = (0 : Int32))) → φ μ) :
    J l mX1_seekFirstBroken (jZ0 5 G (pV φ)) G 0 0 7 [.ref 57, .null, .null, .null] [.int z0] μ := by
  refine j_if_eq 11 dX1_seekFirstBroken_7 rfl (by decide) (fun c0 => ?_) (fun c0 => ?_)
  · skip
    refine j_aload_n dX1_seekFirstBroken_11 rfl rfl ?_
    refine j_bipush (-2) dX1_seekFirstBroken_12 rfl (by decide) ?_
    refine j_putI (ci := 1) (N := 9) (f := 0) (T := TX1) dX1_seekFirstBroken_14 rfl (hG 57 (6, 9) rfl) rfl (by decide) fl_X1_101 rfl rfl ?_
    refine j_aload_n dX1_seekFirstBroken_17 rfl rfl ?_
    refine j_bipush (-2) dX1_seekFirstBroken_18 rfl (by decide) ?_
    refine j_putI (ci := 1) (N := 9) (f := 1) (T := TX1) dX1_seekFirstBroken_20 rfl (hG 57 (6, 9) rfl) rfl (by decide) fl_X1_98 rfl rfl ?_
    refine j_aload_n dX1_seekFirstBroken_23 rfl rfl ?_
    refine j_cV (as := []) (rest := []) dX1_seekFirstBroken_24 rfl vw_X1_73 (hG 57 (6, 9) rfl) rfl ⟨Nat.le_of_ble_eq_true rfl, Nat.le_of_ble_eq_true rfl⟩ rfl rfl (fun _ _ => Nat.le_of_ble_eq_true rfl) (e0 c0) (fun r μ' hr => ?_)
    obtain ⟨rfl, hr⟩ := hr
    exact k0 c0 μ' hr
  · skip
    exact j_vret dX1_seekFirstBroken_10 rfl (k1 c0)
theorem b_X1_seekFirstBroken_27 {l : Launch} {G : jG} {μ : jM} {φ : jM → Prop} {ψ0 : jM → Prop} (hG : gGG G) (hP : gPP μ) 
    (e0 : jC0 l mX10_enter 3 G [.ref 12, .ref 58] μ (pV ψ0)) 
    (k0 : ∀ μ', ψ0 μ' → J l mX1_seekFirstBroken (jZ0 5 G (pV φ)) G 0 0 38 [.ref 57, .null, .null, .null] [] μ') :
    J l mX1_seekFirstBroken (jZ0 5 G (pV φ)) G 0 0 27 [.ref 57, .null, .null, .null] [] μ := by
  refine j_aload_n dX1_seekFirstBroken_27 rfl rfl ?_
  refine j_getR (ci := 1) (N := 9) (f := 3) (T := TX1) 12 dX1_seekFirstBroken_28 rfl (hG 57 (6, 9) rfl) rfl (by decide) fl_X1_32 rfl (hP 57 3 12 rfl) ?_
  refine j_aload_n dX1_seekFirstBroken_31 rfl rfl ?_
  refine j_getR (ci := 1) (N := 9) (f := 5) (T := TX1) 58 dX1_seekFirstBroken_32 rfl (hG 57 (6, 9) rfl) rfl (by decide) fl_X1_18 rfl (hP 57 5 58 rfl) ?_
  refine j_cV (as := [.ref 58]) (rest := []) dX1_seekFirstBroken_35 rfl vw_X1_43 (hG 12 (15, 11) rfl) rfl ⟨Nat.le_of_ble_eq_true rfl, Nat.le_of_ble_eq_true rfl⟩ rfl rfl (fun _ _ => Nat.le_of_ble_eq_true rfl) (e0 ) (fun r μ' hr => ?_)
  obtain ⟨rfl, hr⟩ := hr
  exact k0  μ' hr
theorem b_X1_seekFirstBroken_38 {l : Launch} {G : jG} {μ : jM} {φ : jM → Prop} (hG : gGG G) (hP : gPP μ) 
    (k0 : J l mX1_seekFirstBroken (jZ0 5 G (pV φ)) G 0 0 50 [.ref 57, .int ((μ.1 12 4) ^^^ (-1)), .int 1, .null] [] μ) :
    J l mX1_seekFirstBroken (jZ0 5 G (pV φ)) G 0 0 38 [.ref 57, .null, .null, .null] [] μ := by
  refine j_aload_n dX1_seekFirstBroken_38 rfl rfl ?_
  refine j_getR (ci := 1) (N := 9) (f := 3) (T := TX1) 12 dX1_seekFirstBroken_39 rfl (hG 57 (6, 9) rfl) rfl (by decide) fl_X1_32 rfl (hP 57 3 12 rfl) ?_
  refine j_getI (ci := 10) (N := 11) (f := 4) (T := TX10) dX1_seekFirstBroken_42 rfl (hG 12 (15, 11) rfl) rfl (by decide) fl_X1_119 rfl ?_
  refine j_iconst (-1) dX1_seekFirstBroken_45 rfl (by decide) ?_
  refine j_ixor dX1_seekFirstBroken_46 rfl ?_
  refine j_istore_n (ls' := [.ref 57, .int ((μ.1 12 4) ^^^ (-1)), .null, .null]) dX1_seekFirstBroken_47 rfl rfl (Nat.le_of_ble_eq_true rfl) rfl ?_
  refine j_iconst 1 dX1_seekFirstBroken_48 rfl (by decide) ?_
  refine j_istore_n (ls' := [.ref 57, .int ((μ.1 12 4) ^^^ (-1)), .int 1, .null]) dX1_seekFirstBroken_49 rfl rfl (Nat.le_of_ble_eq_true rfl) rfl ?_
  exact k0 
theorem b_X1_seekFirstBroken_50 {l : Launch} {G : jG} {μ : jM} {φ : jM → Prop} {x1 x2 : Int32} {ψ1 : jM → Prop} (hG : gGG G) (hP : gPP μ) 
    (k0 : (200 < (x2 : Int32)) → φ μ) 
    (e1 : (¬ (200 < (x2 : Int32))) → jC0 l mX10_passNight 4 G [.ref 12] μ (pV ψ1)) 
    (k1 : (¬ (200 < (x2 : Int32))) → ∀ μ', ψ1 μ' → J l mX1_seekFirstBroken (jZ0 5 G (pV φ)) G 0 0 64 [.ref 57, .int x1, .int x2, .null] [] μ') :
    J l mX1_seekFirstBroken (jZ0 5 G (pV φ)) G 0 0 50 [.ref 57, .int x1, .int x2, .null] [] μ := by
  refine j_iload_n dX1_seekFirstBroken_50 rfl rfl ?_
  refine j_sipush 200 dX1_seekFirstBroken_51 rfl (by decide) ?_
  refine j_icmp_gt 98 dX1_seekFirstBroken_54 rfl (by decide) (fun c0 => ?_) (fun c0 => ?_)
  · skip
    exact j_vret dX1_seekFirstBroken_98 rfl (k0 c0)
  · skip
    refine j_aload_n dX1_seekFirstBroken_57 rfl rfl ?_
    refine j_getR (ci := 1) (N := 9) (f := 3) (T := TX1) 12 dX1_seekFirstBroken_58 rfl (hG 57 (6, 9) rfl) rfl (by decide) fl_X1_32 rfl (hP 57 3 12 rfl) ?_
    refine j_cV (as := []) (rest := []) dX1_seekFirstBroken_61 rfl vw_X1_48 (hG 12 (15, 11) rfl) rfl ⟨Nat.le_of_ble_eq_true rfl, Nat.le_of_ble_eq_true rfl⟩ rfl rfl (fun _ _ => Nat.le_of_ble_eq_true rfl) (e1 c0) (fun r μ' hr => ?_)
    obtain ⟨rfl, hr⟩ := hr
    exact k1 c0 μ' hr
theorem b_X1_seekFirstBroken_64 {l : Launch} {G : jG} {μ : jM} {φ : jM → Prop} {x1 x2 : Int32} {ψ1 : Int32 → jM → Prop} (hG : gGG G) (hP : gPP μ) 
    (k0 : (((μ.1 12 4) &&& x1) = (0 : Int32)) → J l mX1_seekFirstBroken (jZ0 5 G (pV φ)) G 0 0 50 [.ref 57, .int x1, .int (x2 + 1), .null] [] μ) 
    (e1 : (¬ (((μ.1 12 4) &&& x1) = (0 : Int32))) → jC0 l mX1_firstBit 0 G [.int ((μ.1 12 4) &&& x1)] μ (pI ψ1)) 
    (k1 : (¬ (((μ.1 12 4) &&& x1) = (0 : Int32))) → ∀ v μ', ψ1 v μ' → J l mX1_seekFirstBroken (jZ0 5 G (pV φ)) G 0 0 83 [.ref 57, .null, .int x2, .null] [.int v, .ref 57] μ') :
    J l mX1_seekFirstBroken (jZ0 5 G (pV φ)) G 0 0 64 [.ref 57, .int x1, .int x2, .null] [] μ := by
  refine j_aload_n dX1_seekFirstBroken_64 rfl rfl ?_
  refine j_getR (ci := 1) (N := 9) (f := 3) (T := TX1) 12 dX1_seekFirstBroken_65 rfl (hG 57 (6, 9) rfl) rfl (by decide) fl_X1_32 rfl (hP 57 3 12 rfl) ?_
  refine j_getI (ci := 10) (N := 11) (f := 4) (T := TX10) dX1_seekFirstBroken_68 rfl (hG 12 (15, 11) rfl) rfl (by decide) fl_X1_119 rfl ?_
  refine j_iload_n dX1_seekFirstBroken_71 rfl rfl ?_
  refine j_iand dX1_seekFirstBroken_72 rfl ?_
  refine j_istore_n (ls' := [.ref 57, .int x1, .int x2, .int ((μ.1 12 4) &&& x1)]) dX1_seekFirstBroken_73 rfl rfl (Nat.le_of_ble_eq_true rfl) rfl ?_
  refine j_iload_n dX1_seekFirstBroken_74 rfl rfl ?_
  refine j_if_eq 92 dX1_seekFirstBroken_75 rfl (by decide) (fun c0 => ?_) (fun c0 => ?_)
  · skip
    refine j_iinc (x2 + 1) (ls' := [.ref 57, .int x1, .int (x2 + 1), .int ((μ.1 12 4) &&& x1)]) dX1_seekFirstBroken_92 rfl rfl rfl (Nat.le_of_ble_eq_true rfl) rfl ?_
    refine j_goto 50 dX1_seekFirstBroken_95 (by decide) ?_
    refine j_forget (ls' := [.ref 57, .int x1, .int (x2 + 1), .null]) ⟨Or.inr rfl, Or.inr rfl, Or.inr rfl, Or.inl rfl, trivial⟩ ?_
    exact k0 c0
  · skip
    refine j_aload_n dX1_seekFirstBroken_78 rfl rfl ?_
    refine j_iload_n dX1_seekFirstBroken_79 rfl rfl ?_
    refine j_cS (as := [.int ((μ.1 12 4) &&& x1)]) (rest := [.ref 57]) dX1_seekFirstBroken_80 rfl vw_X1_122 ⟨Nat.le_of_ble_eq_true rfl, Nat.le_of_ble_eq_true rfl⟩ rfl rfl (fun _ _ => Nat.le_of_ble_eq_true rfl) (e1 c0) (fun r μ' hr => ?_)
    obtain ⟨v, rfl, hr⟩ := hr
    refine j_forget (ls' := [.ref 57, .null, .int x2, .null]) ⟨Or.inr rfl, Or.inl rfl, Or.inr rfl, Or.inl rfl, trivial⟩ ?_
    exact k1 c0 v μ' hr
theorem b_X1_seekFirstBroken_83 {l : Launch} {G : jG} {μ : jM} {φ : jM → Prop} {x2 z0 : Int32} (hG : gGG G) (hP : gPP μ) 
    (k0 : φ (wI (wI μ 57 1 z0) 57 0 x2)) :
    J l mX1_seekFirstBroken (jZ0 5 G (pV φ)) G 0 0 83 [.ref 57, .null, .int x2, .null] [.int z0, .ref 57] μ := by
  refine j_putI (ci := 1) (N := 9) (f := 1) (T := TX1) dX1_seekFirstBroken_83 rfl (hG 57 (6, 9) rfl) rfl (by decide) fl_X1_98 rfl rfl ?_
  refine j_aload_n dX1_seekFirstBroken_86 rfl rfl ?_
  refine j_iload_n dX1_seekFirstBroken_87 rfl rfl ?_
  refine j_putI (ci := 1) (N := 9) (f := 0) (T := TX1) dX1_seekFirstBroken_88 rfl (hG 57 (6, 9) rfl) rfl (by decide) fl_X1_101 rfl rfl ?_
  exact j_vret dX1_seekFirstBroken_91 rfl (k0 )
theorem b_X1_nightsUntilCutOff_0 {l : Launch} {G : jG} {μ : jM} {φ : Int32 → jM → Prop} {x1 : Int32} {ψ0 : jM → Prop} (hG : gGG G) (hP : gPP μ) 
    (e0 : jC0 l mX1_startAnew 2 G [.ref 57] μ (pV ψ0)) 
    (k0 : ∀ μ', ψ0 μ' → J l mX1_nightsUntilCutOff (jZ0 5 G (pI φ)) G 0 0 4 [.ref 57, .int x1, .null] [] μ') :
    J l mX1_nightsUntilCutOff (jZ0 5 G (pI φ)) G 0 0 0 [.ref 57, .int x1, .null] [] μ := by
  refine j_aload_n dX1_nightsUntilCutOff_0 rfl rfl ?_
  refine j_cV (as := []) (rest := []) dX1_nightsUntilCutOff_1 rfl vw_X1_73 (hG 57 (6, 9) rfl) rfl ⟨Nat.le_of_ble_eq_true rfl, Nat.le_of_ble_eq_true rfl⟩ rfl rfl (fun _ _ => Nat.le_of_ble_eq_true rfl) (e0 ) (fun r μ' hr => ?_)
  obtain ⟨rfl, hr⟩ := hr
  exact k0  μ' hr
theorem b_X1_nightsUntilCutOff_4 {l : Launch} {G : jG} {μ : jM} {φ : Int32 → jM → Prop} {x1 : Int32} {ψ0 : jM → Prop} (hG : gGG G) (hP : gPP μ) 
    (e0 : jC0 l mX10_enter 3 G [.ref 12, .ref 58] μ (pV ψ0)) 
    (k0 : ∀ μ', ψ0 μ' → J l mX1_nightsUntilCutOff (jZ0 5 G (pI φ)) G 0 0 15 [.ref 57, .int x1, .null] [] μ') :
    J l mX1_nightsUntilCutOff (jZ0 5 G (pI φ)) G 0 0 4 [.ref 57, .int x1, .null] [] μ := by
  refine j_aload_n dX1_nightsUntilCutOff_4 rfl rfl ?_
  refine j_getR (ci := 1) (N := 9) (f := 3) (T := TX1) 12 dX1_nightsUntilCutOff_5 rfl (hG 57 (6, 9) rfl) rfl (by decide) fl_X1_32 rfl (hP 57 3 12 rfl) ?_
  refine j_aload_n dX1_nightsUntilCutOff_8 rfl rfl ?_
  refine j_getR (ci := 1) (N := 9) (f := 5) (T := TX1) 58 dX1_nightsUntilCutOff_9 rfl (hG 57 (6, 9) rfl) rfl (by decide) fl_X1_18 rfl (hP 57 5 58 rfl) ?_
  refine j_cV (as := [.ref 58]) (rest := []) dX1_nightsUntilCutOff_12 rfl vw_X1_43 (hG 12 (15, 11) rfl) rfl ⟨Nat.le_of_ble_eq_true rfl, Nat.le_of_ble_eq_true rfl⟩ rfl rfl (fun _ _ => Nat.le_of_ble_eq_true rfl) (e0 ) (fun r μ' hr => ?_)
  obtain ⟨rfl, hr⟩ := hr
  exact k0  μ' hr
theorem b_X1_nightsUntilCutOff_15 {l : Launch} {G : jG} {μ : jM} {φ : Int32 → jM → Prop} {x1 : Int32} (hG : gGG G) (hP : gPP μ) 
    (k0 : J l mX1_nightsUntilCutOff (jZ0 5 G (pI φ)) G 0 0 17 [.ref 57, .int x1, .int 0] [] μ) :
    J l mX1_nightsUntilCutOff (jZ0 5 G (pI φ)) G 0 0 15 [.ref 57, .int x1, .null] [] μ := by
  refine j_iconst 0 dX1_nightsUntilCutOff_15 rfl (by decide) ?_
  refine j_istore_n (ls' := [.ref 57, .int x1, .int 0]) dX1_nightsUntilCutOff_16 rfl rfl (Nat.le_of_ble_eq_true rfl) rfl ?_
  exact k0 
theorem b_X1_nightsUntilCutOff_17 {l : Launch} {G : jG} {μ : jM} {φ : Int32 → jM → Prop} {x1 x2 : Int32} {ψ0 : Int32 → jM → Prop} {ψ1 : Int32 → jM → Prop} (hG : gGG G) (hP : gPP μ) 
    (e0 : (200 ≤ (x2 : Int32)) → jC0 l mX10_findWay 3 G [.ref 12, .int x1] μ (pI ψ0)) 
    (k0 : (200 ≤ (x2 : Int32)) → ∀ v μ', ψ0 v μ' → J l mX1_nightsUntilCutOff (jZ0 5 G (pI φ)) G 0 0 58 [.null, .null, .null] [.int v] μ') 
    (e1 : (¬ (200 ≤ (x2 : Int32))) → jC0 l mX10_findWay 3 G [.ref 12, .int x1] μ (pI ψ1)) 
    (k1 : (¬ (200 ≤ (x2 : Int32))) → ∀ v μ', ψ1 v μ' → J l mX1_nightsUntilCutOff (jZ0 5 G (pI φ)) G 0 0 32 [.ref 57, .int x1, .int x2] [.int v] μ') :
    J l mX1_nightsUntilCutOff (jZ0 5 G (pI φ)) G 0 0 17 [.ref 57, .int x1, .int x2] [] μ := by
  refine j_iload_n dX1_nightsUntilCutOff_17 rfl rfl ?_
  refine j_sipush 200 dX1_nightsUntilCutOff_18 rfl (by decide) ?_
  refine j_icmp_ge 50 dX1_nightsUntilCutOff_21 rfl (by decide) (fun c0 => ?_) (fun c0 => ?_)
  · skip
    refine j_aload_n dX1_nightsUntilCutOff_50 rfl rfl ?_
    refine j_getR (ci := 1) (N := 9) (f := 3) (T := TX1) 12 dX1_nightsUntilCutOff_51 rfl (hG 57 (6, 9) rfl) rfl (by decide) fl_X1_32 rfl (hP 57 3 12 rfl) ?_
    refine j_iload_n dX1_nightsUntilCutOff_54 rfl rfl ?_
    refine j_cV (as := [.int x1]) (rest := []) dX1_nightsUntilCutOff_55 rfl vw_X1_104 (hG 12 (15, 11) rfl) rfl ⟨Nat.le_of_ble_eq_true rfl, Nat.le_of_ble_eq_true rfl⟩ rfl rfl (fun _ _ => Nat.le_of_ble_eq_true rfl) (e0 c0) (fun r μ' hr => ?_)
    obtain ⟨v, rfl, hr⟩ := hr
    refine j_forget (ls' := [.null, .null, .null]) ⟨Or.inl rfl, Or.inl rfl, Or.inl rfl, trivial⟩ ?_
    exact k0 c0 v μ' hr
  · skip
    refine j_aload_n dX1_nightsUntilCutOff_24 rfl rfl ?_
    refine j_getR (ci := 1) (N := 9) (f := 3) (T := TX1) 12 dX1_nightsUntilCutOff_25 rfl (hG 57 (6, 9) rfl) rfl (by decide) fl_X1_32 rfl (hP 57 3 12 rfl) ?_
    refine j_iload_n dX1_nightsUntilCutOff_28 rfl rfl ?_
    refine j_cV (as := [.int x1]) (rest := []) dX1_nightsUntilCutOff_29 rfl vw_X1_104 (hG 12 (15, 11) rfl) rfl ⟨Nat.le_of_ble_eq_true rfl, Nat.le_of_ble_eq_true rfl⟩ rfl rfl (fun _ _ => Nat.le_of_ble_eq_true rfl) (e1 c0) (fun r μ' hr => ?_)
    obtain ⟨v, rfl, hr⟩ := hr
    exact k1 c0 v μ' hr
theorem b_X1_nightsUntilCutOff_32 {l : Launch} {G : jG} {μ : jM} {φ : Int32 → jM → Prop} {x1 x2 z0 : Int32} {ψ0 : jM → Prop} (hG : gGG G) (hP : gPP μ) 
    (e0 : (¬ z0 = (0 : Int32)) → jC0 l mX10_passNight 4 G [.ref 12] μ (pV ψ0)) 
    (k0 : (¬ z0 = (0 : Int32)) → ∀ μ', ψ0 μ' → J l mX1_nightsUntilCutOff (jZ0 5 G (pI φ)) G 0 0 44 [.ref 57, .int x1, .int x2] [] μ') 
    (k1 : (z0 = (0 : Int32)) → φ x2 μ) :
    J l mX1_nightsUntilCutOff (jZ0 5 G (pI φ)) G 0 0 32 [.ref 57, .int x1, .int x2] [.int z0] μ := by
  refine j_if_ne 37 dX1_nightsUntilCutOff_32 rfl (by decide) (fun c0 => ?_) (fun c0 => ?_)
  · skip
    refine j_aload_n dX1_nightsUntilCutOff_37 rfl rfl ?_
    refine j_getR (ci := 1) (N := 9) (f := 3) (T := TX1) 12 dX1_nightsUntilCutOff_38 rfl (hG 57 (6, 9) rfl) rfl (by decide) fl_X1_32 rfl (hP 57 3 12 rfl) ?_
    refine j_cV (as := []) (rest := []) dX1_nightsUntilCutOff_41 rfl vw_X1_48 (hG 12 (15, 11) rfl) rfl ⟨Nat.le_of_ble_eq_true rfl, Nat.le_of_ble_eq_true rfl⟩ rfl rfl (fun _ _ => Nat.le_of_ble_eq_true rfl) (e0 c0) (fun r μ' hr => ?_)
    obtain ⟨rfl, hr⟩ := hr
    exact k0 c0 μ' hr
  · skip
    refine j_iload_n dX1_nightsUntilCutOff_35 rfl rfl ?_
    exact j_iret dX1_nightsUntilCutOff_36 rfl (k1 c0)
theorem b_X1_nightsUntilCutOff_44 {l : Launch} {G : jG} {μ : jM} {φ : Int32 → jM → Prop} {x1 x2 : Int32} (hG : gGG G) (hP : gPP μ) 
    (k0 : J l mX1_nightsUntilCutOff (jZ0 5 G (pI φ)) G 0 0 17 [.ref 57, .int x1, .int (x2 + 1)] [] μ) :
    J l mX1_nightsUntilCutOff (jZ0 5 G (pI φ)) G 0 0 44 [.ref 57, .int x1, .int x2] [] μ := by
  refine j_iinc (x2 + 1) (ls' := [.ref 57, .int x1, .int (x2 + 1)]) dX1_nightsUntilCutOff_44 rfl rfl rfl (Nat.le_of_ble_eq_true rfl) rfl ?_
  refine j_goto 17 dX1_nightsUntilCutOff_47 (by decide) ?_
  exact k0 
theorem b_X1_nightsUntilCutOff_58 {l : Launch} {G : jG} {μ : jM} {φ : Int32 → jM → Prop} {z0 : Int32} (hG : gGG G) (hP : gPP μ) 
    (k0 : (z0 = (0 : Int32)) → φ 200 μ) 
    (k1 : (¬ (z0 = (0 : Int32))) → φ (-2) μ) :
    J l mX1_nightsUntilCutOff (jZ0 5 G (pI φ)) G 0 0 58 [.null, .null, .null] [.int z0] μ := by
  refine j_if_eq 66 dX1_nightsUntilCutOff_58 rfl (by decide) (fun c0 => ?_) (fun c0 => ?_)
  · skip
    refine j_sipush 200 dX1_nightsUntilCutOff_66 rfl (by decide) ?_
    exact j_iret dX1_nightsUntilCutOff_69 rfl (k0 c0)
  · skip
    refine j_bipush (-2) dX1_nightsUntilCutOff_61 rfl (by decide) ?_
    refine j_goto 69 dX1_nightsUntilCutOff_63 (by decide) ?_
    exact j_iret dX1_nightsUntilCutOff_69 rfl (k1 c0)
theorem b_X1_growthBySeeds_0 {l : Launch} {G : jG} {μ : jM} {φ : Int32 → jM → Prop} {x1 x2 : Int32} {ψ0 : Int32 → jM → Prop} {t : Nat} (hG : gGG G) (hP : gPP μ) (ht : tO gTold pTold G μ t) (q12_0 : μ.2.2 12 0 = some t) 
    (e0 : jC0 l mX8_hangsOnSeed 1 G [.ref t] μ (pI ψ0)) 
    (k0 : ∀ v μ', ψ0 v μ' → J l mX1_growthBySeeds (jZ0 6 G (pI φ)) G 0 0 10 [.ref 57, .int x1, .int x2, .null, .null] [.int v] μ') :
    J l mX1_growthBySeeds (jZ0 6 G (pI φ)) G 0 0 0 [.ref 57, .int x1, .int x2, .null, .null] [] μ := by
  refine j_aload_n dX1_growthBySeeds_0 rfl rfl ?_
  refine j_getR (ci := 1) (N := 9) (f := 3) (T := TX1) 12 dX1_growthBySeeds_1 rfl (hG 57 (6, 9) rfl) rfl (by decide) fl_X1_32 rfl (hP 57 3 12 rfl) ?_
  refine j_getR (ci := 10) (N := 11) (f := 0) (T := TX10) t dX1_growthBySeeds_4 rfl (hG 12 (15, 11) rfl) rfl (by decide) fl_X1_58 rfl q12_0 ?_
  refine j_cV (as := []) (rest := []) dX1_growthBySeeds_7 rfl vw_X1_125 (ht.1 0 (13, 20) rfl) rfl ⟨Nat.le_of_ble_eq_true rfl, Nat.le_of_ble_eq_true rfl⟩ rfl rfl (fun _ _ => Nat.le_of_ble_eq_true rfl) (e0 ) (fun r μ' hr => ?_)
  obtain ⟨v, rfl, hr⟩ := hr
  exact k0  v μ' hr
theorem b_X1_growthBySeeds_10 {l : Launch} {G : jG} {μ : jM} {φ : Int32 → jM → Prop} {x1 x2 z0 : Int32} {ψ1 : jM → Prop} (hG : gGG G) (hP : gPP μ) 
    (k0 : (¬ z0 = (0 : Int32)) → J l mX1_growthBySeeds (jZ0 6 G (pI φ)) G 0 0 36 [.ref 57, .int x1, .int x2, .int 0, .int 0] [] μ) 
    (e1 : (z0 = (0 : Int32)) → jC0 l mX1_startAnew 2 G [.ref 57] μ (pV ψ1)) 
    (k1 : (z0 = (0 : Int32)) → ∀ μ', ψ1 μ' → J l mX1_growthBySeeds (jZ0 6 G (pI φ)) G 0 0 17 [.ref 57, .int x1, .int x2, .null, .null] [] μ') :
    J l mX1_growthBySeeds (jZ0 6 G (pI φ)) G 0 0 10 [.ref 57, .int x1, .int x2, .null, .null] [.int z0] μ := by
  refine j_if_ne 31 dX1_growthBySeeds_10 rfl (by decide) (fun c0 => ?_) (fun c0 => ?_)
  · skip
    refine j_iconst 0 dX1_growthBySeeds_31 rfl (by decide) ?_
    refine j_istore_n (ls' := [.ref 57, .int x1, .int x2, .int 0, .null]) dX1_growthBySeeds_32 rfl rfl (Nat.le_of_ble_eq_true rfl) rfl ?_
    refine j_iconst 0 dX1_growthBySeeds_33 rfl (by decide) ?_
    refine j_istore (ls' := [.ref 57, .int x1, .int x2, .int 0, .int 0]) dX1_growthBySeeds_34 rfl (Nat.le_of_ble_eq_true rfl) rfl ?_
    exact k0 c0
  · skip
    refine j_aload_n dX1_growthBySeeds_13 rfl rfl ?_
    refine j_cV (as := []) (rest := []) dX1_growthBySeeds_14 rfl vw_X1_73 (hG 57 (6, 9) rfl) rfl ⟨Nat.le_of_ble_eq_true rfl, Nat.le_of_ble_eq_true rfl⟩ rfl rfl (fun _ _ => Nat.le_of_ble_eq_true rfl) (e1 c0) (fun r μ' hr => ?_)
    obtain ⟨rfl, hr⟩ := hr
    exact k1 c0 μ' hr
theorem b_X1_growthBySeeds_17 {l : Launch} {G : jG} {μ : jM} {φ : Int32 → jM → Prop} {x1 x2 : Int32} {ψ0 : jM → Prop} (hG : gGG G) (hP : gPP μ) 
    (e0 : jC0 l mX1_run 5 G [.ref 57, .int x1] μ (pV ψ0)) 
    (k0 : ∀ μ', ψ0 μ' → J l mX1_growthBySeeds (jZ0 6 G (pI φ)) G 0 0 22 [.ref 57, .null, .int x2, .null, .null] [] μ') :
    J l mX1_growthBySeeds (jZ0 6 G (pI φ)) G 0 0 17 [.ref 57, .int x1, .int x2, .null, .null] [] μ := by
  refine j_aload_n dX1_growthBySeeds_17 rfl rfl ?_
  refine j_iload_n dX1_growthBySeeds_18 rfl rfl ?_
  refine j_cV (as := [.int x1]) (rest := []) dX1_growthBySeeds_19 rfl vw_X1_76 (hG 57 (6, 9) rfl) rfl ⟨Nat.le_of_ble_eq_true rfl, Nat.le_of_ble_eq_true rfl⟩ rfl rfl (fun _ _ => Nat.le_of_ble_eq_true rfl) (e0 ) (fun r μ' hr => ?_)
  obtain ⟨rfl, hr⟩ := hr
  refine j_forget (ls' := [.ref 57, .null, .int x2, .null, .null]) ⟨Or.inr rfl, Or.inl rfl, Or.inr rfl, Or.inr rfl, Or.inr rfl, trivial⟩ ?_
  exact k0  μ' hr
theorem b_X1_growthBySeeds_22 {l : Launch} {G : jG} {μ : jM} {φ : Int32 → jM → Prop} {x2 : Int32} {ψ0 : Int32 → jM → Prop} (hG : gGG G) (hP : gPP μ) 
    (e0 : jC0 l mX1_grown 0 G [.ref 57, .int 3, .int 1] μ (pI ψ0)) 
    (k0 : ∀ v μ', ψ0 v μ' → J l mX1_growthBySeeds (jZ0 6 G (pI φ)) G 0 0 28 [.null, .null, .int x2, .null, .null] [.int v] μ') :
    J l mX1_growthBySeeds (jZ0 6 G (pI φ)) G 0 0 22 [.ref 57, .null, .int x2, .null, .null] [] μ := by
  refine j_aload_n dX1_growthBySeeds_22 rfl rfl ?_
  refine j_iconst 3 dX1_growthBySeeds_23 rfl (by decide) ?_
  refine j_iconst 1 dX1_growthBySeeds_24 rfl (by decide) ?_
  refine j_cV (as := [.int 3, .int 1]) (rest := []) dX1_growthBySeeds_25 rfl vw_X1_80 (hG 57 (6, 9) rfl) rfl ⟨Nat.le_of_ble_eq_true rfl, Nat.le_of_ble_eq_true rfl⟩ rfl rfl (fun _ _ => Nat.le_of_ble_eq_true rfl) (e0 ) (fun r μ' hr => ?_)
  obtain ⟨v, rfl, hr⟩ := hr
  refine j_forget (ls' := [.null, .null, .int x2, .null, .null]) ⟨Or.inl rfl, Or.inr rfl, Or.inr rfl, Or.inr rfl, Or.inr rfl, trivial⟩ ?_
  exact k0  v μ' hr
theorem b_X1_growthBySeeds_28 {l : Launch} {G : jG} {μ : jM} {φ : Int32 → jM → Prop} {x2 z0 : Int32} (hG : gGG G) (hP : gPP μ) 
    (k0 : φ (z0 * x2) μ) :
    J l mX1_growthBySeeds (jZ0 6 G (pI φ)) G 0 0 28 [.null, .null, .int x2, .null, .null] [.int z0] μ := by
  refine j_iload_n dX1_growthBySeeds_28 rfl rfl ?_
  refine j_imul dX1_growthBySeeds_29 rfl ?_
  exact j_iret dX1_growthBySeeds_30 rfl (k0 )
theorem b_X1_growthBySeeds_36 {l : Launch} {G : jG} {μ : jM} {φ : Int32 → jM → Prop} {x1 x2 x3 x4 : Int32} {ψ1 : jM → Prop} (hG : gGG G) (hP : gPP μ) 
    (k0 : (x2 ≤ (x4 : Int32)) → φ x3 μ) 
    (e1 : (¬ (x2 ≤ (x4 : Int32))) → jC0 l mX1_startAnew 2 G [.ref 57] μ (pV ψ1)) 
    (k1 : (¬ (x2 ≤ (x4 : Int32))) → ∀ μ', ψ1 μ' → J l mX1_growthBySeeds (jZ0 6 G (pI φ)) G 0 0 46 [.ref 57, .int x1, .int x2, .int x3, .int x4] [] μ') :
    J l mX1_growthBySeeds (jZ0 6 G (pI φ)) G 0 0 36 [.ref 57, .int x1, .int x2, .int x3, .int x4] [] μ := by
  refine j_iload dX1_growthBySeeds_36 rfl rfl ?_
  refine j_iload_n dX1_growthBySeeds_38 rfl rfl ?_
  refine j_icmp_ge 80 dX1_growthBySeeds_39 rfl (by decide) (fun c0 => ?_) (fun c0 => ?_)
  · skip
    refine j_iload_n dX1_growthBySeeds_80 rfl rfl ?_
    exact j_iret dX1_growthBySeeds_81 rfl (k0 c0)
  · skip
    refine j_aload_n dX1_growthBySeeds_42 rfl rfl ?_
    refine j_cV (as := []) (rest := []) dX1_growthBySeeds_43 rfl vw_X1_73 (hG 57 (6, 9) rfl) rfl ⟨Nat.le_of_ble_eq_true rfl, Nat.le_of_ble_eq_true rfl⟩ rfl rfl (fun _ _ => Nat.le_of_ble_eq_true rfl) (e1 c0) (fun r μ' hr => ?_)
    obtain ⟨rfl, hr⟩ := hr
    exact k1 c0 μ' hr
theorem b_X1_growthBySeeds_46 {l : Launch} {G : jG} {μ : jM} {φ : Int32 → jM → Prop} {x1 x2 x3 x4 : Int32} {ψ0 : jM → Prop} (hG : gGG G) (hP : gPP μ) 
    (e0 : jC0 l mX1_run 5 G [.ref 57, .int x1] (wI μ 59 5 ((μ.1 59 5) + x4)) (pV ψ0)) 
    (k0 : ∀ μ', ψ0 μ' → J l mX1_growthBySeeds (jZ0 6 G (pI φ)) G 0 0 65 [.ref 57, .int x1, .int x2, .int x3, .int x4] [] μ') :
    J l mX1_growthBySeeds (jZ0 6 G (pI φ)) G 0 0 46 [.ref 57, .int x1, .int x2, .int x3, .int x4] [] μ := by
  refine j_aload_n dX1_growthBySeeds_46 rfl rfl ?_
  refine j_getR (ci := 1) (N := 9) (f := 5) (T := TX1) 58 dX1_growthBySeeds_47 rfl (hG 57 (6, 9) rfl) rfl (by decide) fl_X1_18 rfl (hP 57 5 58 rfl) ?_
  refine j_getR (ci := 5) (N := 1) (f := 0) (T := TX5) 59 dX1_growthBySeeds_50 rfl (hG 58 (10, 1) rfl) rfl (by decide) fl_X1_51 rfl (hP 58 0 59 rfl) ?_
  refine j_iconst 5 dX1_growthBySeeds_53 rfl (by decide) ?_
  refine j_dup2 dX1_growthBySeeds_54 rfl (fun _ _ => rfl) (fun _ _ => rfl) ?_
  refine j_iald' (j := 5) dX1_growthBySeeds_55 rfl (hG 59 (0, 71) rfl) (vpK (by decide)) (by decide) ?_
  refine j_iload dX1_growthBySeeds_56 rfl rfl ?_
  refine j_iadd dX1_growthBySeeds_58 rfl ?_
  refine j_iast' (j := 5) dX1_growthBySeeds_59 rfl (hG 59 (0, 71) rfl) (vpK (by decide)) (by decide) ?_
  refine j_aload_n dX1_growthBySeeds_60 rfl rfl ?_
  refine j_iload_n dX1_growthBySeeds_61 rfl rfl ?_
  refine j_cV (as := [.int x1]) (rest := []) dX1_growthBySeeds_62 rfl vw_X1_76 (hG 57 (6, 9) rfl) rfl ⟨Nat.le_of_ble_eq_true rfl, Nat.le_of_ble_eq_true rfl⟩ rfl rfl (fun _ _ => Nat.le_of_ble_eq_true rfl) (e0 ) (fun r μ' hr => ?_)
  obtain ⟨rfl, hr⟩ := hr
  exact k0  μ' hr
theorem b_X1_growthBySeeds_65 {l : Launch} {G : jG} {μ : jM} {φ : Int32 → jM → Prop} {x1 x2 x3 x4 : Int32} {ψ0 : Int32 → jM → Prop} (hG : gGG G) (hP : gPP μ) 
    (e0 : jC0 l mX1_grown 0 G [.ref 57, .int 3, .int 1] μ (pI ψ0)) 
    (k0 : ∀ v μ', ψ0 v μ' → J l mX1_growthBySeeds (jZ0 6 G (pI φ)) G 0 0 72 [.ref 57, .int x1, .int x2, .null, .int x4] [.int v, .int x3] μ') :
    J l mX1_growthBySeeds (jZ0 6 G (pI φ)) G 0 0 65 [.ref 57, .int x1, .int x2, .int x3, .int x4] [] μ := by
  refine j_iload_n dX1_growthBySeeds_65 rfl rfl ?_
  refine j_aload_n dX1_growthBySeeds_66 rfl rfl ?_
  refine j_iconst 3 dX1_growthBySeeds_67 rfl (by decide) ?_
  refine j_iconst 1 dX1_growthBySeeds_68 rfl (by decide) ?_
  refine j_cV (as := [.int 3, .int 1]) (rest := [.int x3]) dX1_growthBySeeds_69 rfl vw_X1_80 (hG 57 (6, 9) rfl) rfl ⟨Nat.le_of_ble_eq_true rfl, Nat.le_of_ble_eq_true rfl⟩ rfl rfl (fun _ _ => Nat.le_of_ble_eq_true rfl) (e0 ) (fun r μ' hr => ?_)
  obtain ⟨v, rfl, hr⟩ := hr
  refine j_forget (ls' := [.ref 57, .int x1, .int x2, .null, .int x4]) ⟨Or.inr rfl, Or.inr rfl, Or.inr rfl, Or.inl rfl, Or.inr rfl, trivial⟩ ?_
  exact k0  v μ' hr
theorem b_X1_growthBySeeds_72 {l : Launch} {G : jG} {μ : jM} {φ : Int32 → jM → Prop} {x1 x2 x4 z0 z1 : Int32} (hG : gGG G) (hP : gPP μ) 
    (k0 : J l mX1_growthBySeeds (jZ0 6 G (pI φ)) G 0 0 36 [.ref 57, .int x1, .int x2, .int (z1 + z0), .int (x4 + 1)] [] μ) :
    J l mX1_growthBySeeds (jZ0 6 G (pI φ)) G 0 0 72 [.ref 57, .int x1, .int x2, .null, .int x4] [.int z0, .int z1] μ := by
  refine j_iadd dX1_growthBySeeds_72 rfl ?_
  refine j_istore_n (ls' := [.ref 57, .int x1, .int x2, .int (z1 + z0), .int x4]) dX1_growthBySeeds_73 rfl rfl (Nat.le_of_ble_eq_true rfl) rfl ?_
  refine j_iinc (x4 + 1) (ls' := [.ref 57, .int x1, .int x2, .int (z1 + z0), .int (x4 + 1)]) dX1_growthBySeeds_74 rfl rfl rfl (Nat.le_of_ble_eq_true rfl) rfl ?_
  refine j_goto 36 dX1_growthBySeeds_77 (by decide) ?_
  exact k0 
theorem b_X1_isAnswered_0 {l : Launch} {G : jG} {μ : jM} {φ : Int32 → jM → Prop} {x1 : Int32} (hG : gGG G) (hP : gPP μ) 
    (k0 : (¬ x1 = ((μ.1 57 2) : Int32)) → φ 0 (wI (wI (wI μ 57 2 x1) 57 0 (-1)) 57 1 0)) 
    (k1 : (x1 = ((μ.1 57 2) : Int32)) → φ 1 μ) :
    J l mX1_isAnswered (jZ0 0 G (pI φ)) G 0 0 0 [.ref 57, .int x1] [] μ := by
  refine j_iload_n dX1_isAnswered_0 rfl rfl ?_
  refine j_aload_n dX1_isAnswered_1 rfl rfl ?_
  refine j_getI (ci := 1) (N := 9) (f := 2) (T := TX1) dX1_isAnswered_2 rfl (hG 57 (6, 9) rfl) rfl (by decide) fl_X1_9 rfl ?_
  refine j_icmp_ne 10 dX1_isAnswered_5 rfl (by decide) (fun c0 => ?_) (fun c0 => ?_)
  · skip
    refine j_aload_n dX1_isAnswered_10 rfl rfl ?_
    refine j_iload_n dX1_isAnswered_11 rfl rfl ?_
    refine j_putI (ci := 1) (N := 9) (f := 2) (T := TX1) dX1_isAnswered_12 rfl (hG 57 (6, 9) rfl) rfl (by decide) fl_X1_9 rfl rfl ?_
    refine j_aload_n dX1_isAnswered_15 rfl rfl ?_
    refine j_iconst (-1) dX1_isAnswered_16 rfl (by decide) ?_
    refine j_putI (ci := 1) (N := 9) (f := 0) (T := TX1) dX1_isAnswered_17 rfl (hG 57 (6, 9) rfl) rfl (by decide) fl_X1_101 rfl rfl ?_
    refine j_aload_n dX1_isAnswered_20 rfl rfl ?_
    refine j_iconst 0 dX1_isAnswered_21 rfl (by decide) ?_
    refine j_putI (ci := 1) (N := 9) (f := 1) (T := TX1) dX1_isAnswered_22 rfl (hG 57 (6, 9) rfl) rfl (by decide) fl_X1_98 rfl rfl ?_
    refine j_iconst 0 dX1_isAnswered_25 rfl (by decide) ?_
    exact j_zret dX1_isAnswered_26 rfl (by decide) (k0 c0)
  · skip
    refine j_iconst 1 dX1_isAnswered_8 rfl (by decide) ?_
    exact j_zret dX1_isAnswered_9 rfl (by decide) (k1 c0)
theorem b_X1_keepMost_0 {l : Launch} {G : jG} {μ : jM} {φ : jM → Prop} {x1 x2 : Int32} (hG : gGG G) (hP : gPP μ) 
    (k0 : (x1 ≤ ((μ.1 57 0) : Int32)) → φ μ) 
    (k1 : (¬ (x1 ≤ ((μ.1 57 0) : Int32))) → φ (wI (wI μ 57 0 x1) 57 1 x2)) :
    J l mX1_keepMost (jZ0 0 G (pV φ)) G 0 0 0 [.ref 57, .int x1, .int x2] [] μ := by
  refine j_iload_n dX1_keepMost_0 rfl rfl ?_
  refine j_aload_n dX1_keepMost_1 rfl rfl ?_
  refine j_getI (ci := 1) (N := 9) (f := 0) (T := TX1) dX1_keepMost_2 rfl (hG 57 (6, 9) rfl) rfl (by decide) fl_X1_101 rfl ?_
  refine j_icmp_le 18 dX1_keepMost_5 rfl (by decide) (fun c0 => ?_) (fun c0 => ?_)
  · skip
    exact j_vret dX1_keepMost_18 rfl (k0 c0)
  · skip
    refine j_aload_n dX1_keepMost_8 rfl rfl ?_
    refine j_iload_n dX1_keepMost_9 rfl rfl ?_
    refine j_putI (ci := 1) (N := 9) (f := 0) (T := TX1) dX1_keepMost_10 rfl (hG 57 (6, 9) rfl) rfl (by decide) fl_X1_101 rfl rfl ?_
    refine j_aload_n dX1_keepMost_13 rfl rfl ?_
    refine j_iload_n dX1_keepMost_14 rfl rfl ?_
    refine j_putI (ci := 1) (N := 9) (f := 1) (T := TX1) dX1_keepMost_15 rfl (hG 57 (6, 9) rfl) rfl (by decide) fl_X1_98 rfl rfl ?_
    exact j_vret dX1_keepMost_18 rfl (k1 c0)
theorem b_X1_findOpenRoads_0 {l : Launch} {G : jG} {μ : jM} {φ : jM → Prop} {ψ0 : jM → Prop} (hG : gGG G) (hP : gPP μ) 
    (e0 : jC0 l mX1_startAnew 2 G [.ref 57] μ (pV ψ0)) 
    (k0 : ∀ μ', ψ0 μ' → J l mX1_findOpenRoads (jZ0 4 G (pV φ)) G 0 0 4 [.ref 57, .null] [] μ') :
    J l mX1_findOpenRoads (jZ0 4 G (pV φ)) G 0 0 0 [.ref 57, .null] [] μ := by
  refine j_aload_n dX1_findOpenRoads_0 rfl rfl ?_
  refine j_cV (as := []) (rest := []) dX1_findOpenRoads_1 rfl vw_X1_73 (hG 57 (6, 9) rfl) rfl ⟨Nat.le_of_ble_eq_true rfl, Nat.le_of_ble_eq_true rfl⟩ rfl rfl (fun _ _ => Nat.le_of_ble_eq_true rfl) (e0 ) (fun r μ' hr => ?_)
  obtain ⟨rfl, hr⟩ := hr
  exact k0  μ' hr
theorem b_X1_findOpenRoads_4 {l : Launch} {G : jG} {μ : jM} {φ : jM → Prop} {ψ0 : jM → Prop} (hG : gGG G) (hP : gPP μ) 
    (e0 : jC0 l mX10_enter 3 G [.ref 12, .ref 58] (wI μ 59 4 0) (pV ψ0)) 
    (k0 : ∀ μ', ψ0 μ' → J l mX1_findOpenRoads (jZ0 4 G (pV φ)) G 0 0 25 [.ref 57, .null] [] μ') :
    J l mX1_findOpenRoads (jZ0 4 G (pV φ)) G 0 0 4 [.ref 57, .null] [] μ := by
  refine j_aload_n dX1_findOpenRoads_4 rfl rfl ?_
  refine j_getR (ci := 1) (N := 9) (f := 5) (T := TX1) 58 dX1_findOpenRoads_5 rfl (hG 57 (6, 9) rfl) rfl (by decide) fl_X1_18 rfl (hP 57 5 58 rfl) ?_
  refine j_getR (ci := 5) (N := 1) (f := 0) (T := TX5) 59 dX1_findOpenRoads_8 rfl (hG 58 (10, 1) rfl) rfl (by decide) fl_X1_51 rfl (hP 58 0 59 rfl) ?_
  refine j_iconst 4 dX1_findOpenRoads_11 rfl (by decide) ?_
  refine j_iconst 0 dX1_findOpenRoads_12 rfl (by decide) ?_
  refine j_iast' (j := 4) dX1_findOpenRoads_13 rfl (hG 59 (0, 71) rfl) (vpK (by decide)) (by decide) ?_
  refine j_aload_n dX1_findOpenRoads_14 rfl rfl ?_
  refine j_getR (ci := 1) (N := 9) (f := 3) (T := TX1) 12 dX1_findOpenRoads_15 rfl (hG 57 (6, 9) rfl) rfl (by decide) fl_X1_32 rfl (hP 57 3 12 rfl) ?_
  refine j_aload_n dX1_findOpenRoads_18 rfl rfl ?_
  refine j_getR (ci := 1) (N := 9) (f := 5) (T := TX1) 58 dX1_findOpenRoads_19 rfl (hG 57 (6, 9) rfl) rfl (by decide) fl_X1_18 rfl (hP 57 5 58 rfl) ?_
  refine j_cV (as := [.ref 58]) (rest := []) dX1_findOpenRoads_22 rfl vw_X1_43 (hG 12 (15, 11) rfl) rfl ⟨Nat.le_of_ble_eq_true rfl, Nat.le_of_ble_eq_true rfl⟩ rfl rfl (fun _ _ => Nat.le_of_ble_eq_true rfl) (e0 ) (fun r μ' hr => ?_)
  obtain ⟨rfl, hr⟩ := hr
  exact k0  μ' hr
theorem b_X1_findOpenRoads_25 {l : Launch} {G : jG} {μ : jM} {φ : jM → Prop} (hG : gGG G) (hP : gPP μ) 
    (k0 : J l mX1_findOpenRoads (jZ0 4 G (pV φ)) G 0 0 27 [.ref 57, .int 0] [] μ) :
    J l mX1_findOpenRoads (jZ0 4 G (pV φ)) G 0 0 25 [.ref 57, .null] [] μ := by
  refine j_iconst 0 dX1_findOpenRoads_25 rfl (by decide) ?_
  refine j_istore_n (ls' := [.ref 57, .int 0]) dX1_findOpenRoads_26 rfl rfl (Nat.le_of_ble_eq_true rfl) rfl ?_
  exact k0 
theorem b_X1_findOpenRoads_27 {l : Launch} {G : jG} {μ : jM} {φ : jM → Prop} {x1 : Int32} {ψ1 : Int32 → jM → Prop} {t : Nat} (hG : gGG G) (hP : gPP μ) (ht : tO gTold pTold G μ t) (q12_0 : μ.2.2 12 0 = some t) 
    (k0 : ((μ.1 t 2) ≤ (x1 : Int32)) → φ μ) 
    (e1 : (¬ ((μ.1 t 2) ≤ (x1 : Int32))) → jC0 l mX10_findWay 3 G [.ref 12, .int x1] μ (pI ψ1)) 
    (k1 : (¬ ((μ.1 t 2) ≤ (x1 : Int32))) → ∀ v μ', ψ1 v μ' → J l mX1_findOpenRoads (jZ0 4 G (pV φ)) G 0 0 49 [.ref 57, .int x1] [.int v] μ') :
    J l mX1_findOpenRoads (jZ0 4 G (pV φ)) G 0 0 27 [.ref 57, .int x1] [] μ := by
  refine j_iload_n dX1_findOpenRoads_27 rfl rfl ?_
  refine j_aload_n dX1_findOpenRoads_28 rfl rfl ?_
  refine j_getR (ci := 1) (N := 9) (f := 3) (T := TX1) 12 dX1_findOpenRoads_29 rfl (hG 57 (6, 9) rfl) rfl (by decide) fl_X1_32 rfl (hP 57 3 12 rfl) ?_
  refine j_getR (ci := 10) (N := 11) (f := 0) (T := TX10) t dX1_findOpenRoads_32 rfl (hG 12 (15, 11) rfl) rfl (by decide) fl_X1_58 rfl q12_0 ?_
  refine j_getI (ci := 8) (N := 20) (f := 2) (T := TX8) dX1_findOpenRoads_35 rfl (ht.1 0 (13, 20) rfl) rfl (by decide) fl_X1_129 rfl ?_
  refine j_icmp_ge 74 dX1_findOpenRoads_38 rfl (by decide) (fun c0 => ?_) (fun c0 => ?_)
  · skip
    exact j_vret dX1_findOpenRoads_74 rfl (k0 c0)
  · skip
    refine j_aload_n dX1_findOpenRoads_41 rfl rfl ?_
    refine j_getR (ci := 1) (N := 9) (f := 3) (T := TX1) 12 dX1_findOpenRoads_42 rfl (hG 57 (6, 9) rfl) rfl (by decide) fl_X1_32 rfl (hP 57 3 12 rfl) ?_
    refine j_iload_n dX1_findOpenRoads_45 rfl rfl ?_
    refine j_cV (as := [.int x1]) (rest := []) dX1_findOpenRoads_46 rfl vw_X1_104 (hG 12 (15, 11) rfl) rfl ⟨Nat.le_of_ble_eq_true rfl, Nat.le_of_ble_eq_true rfl⟩ rfl rfl (fun _ _ => Nat.le_of_ble_eq_true rfl) (e1 c0) (fun r μ' hr => ?_)
    obtain ⟨v, rfl, hr⟩ := hr
    exact k1 c0 v μ' hr
theorem b_X1_findOpenRoads_49 {l : Launch} {G : jG} {μ : jM} {φ : jM → Prop} {x1 z0 : Int32} {y : Nat} (hG : gGG G) (hP : gPP μ) (hy : tO gWay pWay G μ y) 
    (o0 : vp_in x1 7) 
    (o1 : μ.2.2 13 (Int32.toNatClampNeg x1) = some y) 
    (k0 : J l mX1_findOpenRoads (jZ0 4 G (pV φ)) G 0 0 27 [.ref 57, .int (x1 + 1)] [] (wI μ 62 (Int32.toNatClampNeg x1) (μ.1 y 7))) :
    J l mX1_findOpenRoads (jZ0 4 G (pV φ)) G 0 0 49 [.ref 57, .int x1] [.int z0] μ := by
  refine j_pop dX1_findOpenRoads_49 rfl (fun _ _ => rfl) ?_
  refine j_aload_n dX1_findOpenRoads_50 rfl rfl ?_
  refine j_getR (ci := 1) (N := 9) (f := 8) (T := TX1) 62 dX1_findOpenRoads_51 rfl (hG 57 (6, 9) rfl) rfl (by decide) fl_X1_29 rfl (hP 57 8 62 rfl) ?_
  refine j_iload_n dX1_findOpenRoads_54 rfl rfl ?_
  refine j_aload_n dX1_findOpenRoads_55 rfl rfl ?_
  refine j_getR (ci := 1) (N := 9) (f := 3) (T := TX1) 12 dX1_findOpenRoads_56 rfl (hG 57 (6, 9) rfl) rfl (by decide) fl_X1_32 rfl (hP 57 3 12 rfl) ?_
  refine j_getR (ci := 10) (N := 11) (f := 3) (T := TX10) 13 dX1_findOpenRoads_59 rfl (hG 12 (15, 11) rfl) rfl (by decide) fl_X1_107 rfl (hP 12 3 13 rfl) ?_
  refine j_iload_n dX1_findOpenRoads_62 rfl rfl ?_
  refine j_aald' (j := (Int32.toNatClampNeg x1)) dX1_findOpenRoads_63 rfl (hG 13 (4, 7) rfl) o0 rfl o1 ?_
  refine j_getI (ci := 9) (N := 9) (f := 7) (T := TX9) dX1_findOpenRoads_64 rfl (hy.1 0 (14, 9) rfl) rfl (by decide) fl_X1_132 rfl ?_
  refine j_iast' (j := (Int32.toNatClampNeg x1)) dX1_findOpenRoads_67 rfl (hG 62 (0, 7) rfl) o0 rfl ?_
  refine j_iinc (x1 + 1) (ls' := [.ref 57, .int (x1 + 1)]) dX1_findOpenRoads_68 rfl rfl rfl (Nat.le_of_ble_eq_true rfl) rfl ?_
  refine j_goto 27 dX1_findOpenRoads_71 (by decide) ?_
  exact k0 
theorem b_X1_fewestGates_0 {l : Launch} {G : jG} {μ : jM} {φ : Int32 → jM → Prop} {t : Nat} (hG : gGG G) (hP : gPP μ) (ht : tO gTold pTold G μ t) (q12_0 : μ.2.2 12 0 = some t) 
    (k0 : J l mX1_fewestGates (jZ0 5 G (pI φ)) G 0 0 15 [.ref 57, .int (1 <<< ((μ.1 t 1) &&& 31)), .int 0, .null] [] μ) :
    J l mX1_fewestGates (jZ0 5 G (pI φ)) G 0 0 0 [.ref 57, .null, .null, .null] [] μ := by
  refine j_iconst 1 dX1_fewestGates_0 rfl (by decide) ?_
  refine j_aload_n dX1_fewestGates_1 rfl rfl ?_
  refine j_getR (ci := 1) (N := 9) (f := 3) (T := TX1) 12 dX1_fewestGates_2 rfl (hG 57 (6, 9) rfl) rfl (by decide) fl_X1_32 rfl (hP 57 3 12 rfl) ?_
  refine j_getR (ci := 10) (N := 11) (f := 0) (T := TX10) t dX1_fewestGates_5 rfl (hG 12 (15, 11) rfl) rfl (by decide) fl_X1_58 rfl q12_0 ?_
  refine j_getI (ci := 8) (N := 20) (f := 1) (T := TX8) dX1_fewestGates_8 rfl (ht.1 0 (13, 20) rfl) rfl (by decide) fl_X1_62 rfl ?_
  refine j_ishl dX1_fewestGates_11 rfl ?_
  refine j_istore_n (ls' := [.ref 57, .int (1 <<< ((μ.1 t 1) &&& 31)), .null, .null]) dX1_fewestGates_12 rfl rfl (Nat.le_of_ble_eq_true rfl) rfl ?_
  refine j_iconst 0 dX1_fewestGates_13 rfl (by decide) ?_
  refine j_istore_n (ls' := [.ref 57, .int (1 <<< ((μ.1 t 1) &&& 31)), .int 0, .null]) dX1_fewestGates_14 rfl rfl (Nat.le_of_ble_eq_true rfl) rfl ?_
  exact k0 
theorem b_X1_fewestGates_15 {l : Launch} {G : jG} {μ : jM} {φ : Int32 → jM → Prop} {x1 x2 : Int32} {t : Nat} (hG : gGG G) (hP : gPP μ) (ht : tO gTold pTold G μ t) (q12_0 : μ.2.2 12 0 = some t) 
    (k0 : ((μ.1 t 1) ≤ (x2 : Int32)) → φ (x1 - 1) μ) 
    (k1 : (¬ ((μ.1 t 1) ≤ (x2 : Int32))) → J l mX1_fewestGates (jZ0 5 G (pI φ)) G 0 0 31 [.ref 57, .int x1, .int x2, .int 0] [] μ) :
    J l mX1_fewestGates (jZ0 5 G (pI φ)) G 0 0 15 [.ref 57, .int x1, .int x2, .null] [] μ := by
  refine j_iload_n dX1_fewestGates_15 rfl rfl ?_
  refine j_aload_n dX1_fewestGates_16 rfl rfl ?_
  refine j_getR (ci := 1) (N := 9) (f := 3) (T := TX1) 12 dX1_fewestGates_17 rfl (hG 57 (6, 9) rfl) rfl (by decide) fl_X1_32 rfl (hP 57 3 12 rfl) ?_
  refine j_getR (ci := 10) (N := 11) (f := 0) (T := TX10) t dX1_fewestGates_20 rfl (hG 12 (15, 11) rfl) rfl (by decide) fl_X1_58 rfl q12_0 ?_
  refine j_getI (ci := 8) (N := 20) (f := 1) (T := TX8) dX1_fewestGates_23 rfl (ht.1 0 (13, 20) rfl) rfl (by decide) fl_X1_62 rfl ?_
  refine j_icmp_ge 66 dX1_fewestGates_26 rfl (by decide) (fun c0 => ?_) (fun c0 => ?_)
  · skip
    refine j_iload_n dX1_fewestGates_66 rfl rfl ?_
    refine j_iconst 1 dX1_fewestGates_67 rfl (by decide) ?_
    refine j_isub dX1_fewestGates_68 rfl ?_
    exact j_iret dX1_fewestGates_69 rfl (k0 c0)
  · skip
    refine j_iconst 0 dX1_fewestGates_29 rfl (by decide) ?_
    refine j_istore_n (ls' := [.ref 57, .int x1, .int x2, .int 0]) dX1_fewestGates_30 rfl rfl (Nat.le_of_ble_eq_true rfl) rfl ?_
    exact k1 c0
theorem b_X1_fewestGates_31 {l : Launch} {G : jG} {μ : jM} {φ : Int32 → jM → Prop} {x1 x2 x3 : Int32} {ψ1 : Int32 → jM → Prop} (hG : gGG G) (hP : gPP μ) 
    (k0 : (x1 ≤ (x3 : Int32)) → J l mX1_fewestGates (jZ0 5 G (pI φ)) G 0 0 15 [.ref 57, .int x1, .int (x2 + 1), .null] [] μ) 
    (e1 : (¬ (x1 ≤ (x3 : Int32))) → jC0 l mJI_bitCount 0 G [.int x3] μ (pI ψ1)) 
    (k1 : (¬ (x1 ≤ (x3 : Int32))) → ∀ v μ', ψ1 v μ' → J l mX1_fewestGates (jZ0 5 G (pI φ)) G 0 0 40 [.ref 57, .int x1, .int x2, .int x3] [.int v] μ') :
    J l mX1_fewestGates (jZ0 5 G (pI φ)) G 0 0 31 [.ref 57, .int x1, .int x2, .int x3] [] μ := by
  refine j_iload_n dX1_fewestGates_31 rfl rfl ?_
  refine j_iload_n dX1_fewestGates_32 rfl rfl ?_
  refine j_icmp_ge 60 dX1_fewestGates_33 rfl (by decide) (fun c0 => ?_) (fun c0 => ?_)
  · skip
    refine j_iinc (x2 + 1) (ls' := [.ref 57, .int x1, .int (x2 + 1), .int x3]) dX1_fewestGates_60 rfl rfl rfl (Nat.le_of_ble_eq_true rfl) rfl ?_
    refine j_goto 15 dX1_fewestGates_63 (by decide) ?_
    refine j_forget (ls' := [.ref 57, .int x1, .int (x2 + 1), .null]) ⟨Or.inr rfl, Or.inr rfl, Or.inr rfl, Or.inl rfl, trivial⟩ ?_
    exact k0 c0
  · skip
    refine j_iload_n dX1_fewestGates_36 rfl rfl ?_
    refine j_cS (as := [.int x3]) (rest := []) dX1_fewestGates_37 rfl vw_X1_67 ⟨Nat.le_of_ble_eq_true rfl, Nat.le_of_ble_eq_true rfl⟩ rfl rfl (fun _ _ => Nat.le_of_ble_eq_true rfl) (e1 c0) (fun r μ' hr => ?_)
    obtain ⟨v, rfl, hr⟩ := hr
    exact k1 c0 v μ' hr
theorem b_X1_fewestGates_40 {l : Launch} {G : jG} {μ : jM} {φ : Int32 → jM → Prop} {x1 x2 x3 z0 : Int32} {ψ1 : Int32 → jM → Prop} (hG : gGG G) (hP : gPP μ) 
    (k0 : (¬ z0 = (x2 : Int32)) → J l mX1_fewestGates (jZ0 5 G (pI φ)) G 0 0 31 [.ref 57, .int x1, .int x2, .int (x3 + 1)] [] μ) 
    (e1 : (z0 = (x2 : Int32)) → jC0 l mX1_leavesNobodyFree 4 G [.ref 57, .int x3] μ (pI ψ1)) 
    (k1 : (z0 = (x2 : Int32)) → ∀ v μ', ψ1 v μ' → J l mX1_fewestGates (jZ0 5 G (pI φ)) G 0 0 49 [.ref 57, .int x1, .int x2, .int x3] [.int v] μ') :
    J l mX1_fewestGates (jZ0 5 G (pI φ)) G 0 0 40 [.ref 57, .int x1, .int x2, .int x3] [.int z0] μ := by
  refine j_iload_n dX1_fewestGates_40 rfl rfl ?_
  refine j_icmp_ne 54 dX1_fewestGates_41 rfl (by decide) (fun c0 => ?_) (fun c0 => ?_)
  · skip
    refine j_iinc (x3 + 1) (ls' := [.ref 57, .int x1, .int x2, .int (x3 + 1)]) dX1_fewestGates_54 rfl rfl rfl (Nat.le_of_ble_eq_true rfl) rfl ?_
    refine j_goto 31 dX1_fewestGates_57 (by decide) ?_
    exact k0 c0
  · skip
    refine j_aload_n dX1_fewestGates_44 rfl rfl ?_
    refine j_iload_n dX1_fewestGates_45 rfl rfl ?_
    refine j_cV (as := [.int x3]) (rest := []) dX1_fewestGates_46 rfl vw_X1_135 (hG 57 (6, 9) rfl) rfl ⟨Nat.le_of_ble_eq_true rfl, Nat.le_of_ble_eq_true rfl⟩ rfl rfl (fun _ _ => Nat.le_of_ble_eq_true rfl) (e1 c0) (fun r μ' hr => ?_)
    obtain ⟨v, rfl, hr⟩ := hr
    exact k1 c0 v μ' hr
theorem b_X1_fewestGates_49 {l : Launch} {G : jG} {μ : jM} {φ : Int32 → jM → Prop} {x1 x2 x3 z0 : Int32} (hG : gGG G) (hP : gPP μ) 
    (k0 : (z0 = (0 : Int32)) → J l mX1_fewestGates (jZ0 5 G (pI φ)) G 0 0 31 [.ref 57, .int x1, .int x2, .int (x3 + 1)] [] μ) 
    (k1 : (¬ (z0 = (0 : Int32))) → φ x3 μ) :
    J l mX1_fewestGates (jZ0 5 G (pI φ)) G 0 0 49 [.ref 57, .int x1, .int x2, .int x3] [.int z0] μ := by
  refine j_if_eq 54 dX1_fewestGates_49 rfl (by decide) (fun c0 => ?_) (fun c0 => ?_)
  · skip
    refine j_iinc (x3 + 1) (ls' := [.ref 57, .int x1, .int x2, .int (x3 + 1)]) dX1_fewestGates_54 rfl rfl rfl (Nat.le_of_ble_eq_true rfl) rfl ?_
    refine j_goto 31 dX1_fewestGates_57 (by decide) ?_
    exact k0 c0
  · skip
    refine j_iload_n dX1_fewestGates_52 rfl rfl ?_
    exact j_iret dX1_fewestGates_53 rfl (k1 c0)
theorem b_X1_leavesNobodyFree_0 {l : Launch} {G : jG} {μ : jM} {φ : Int32 → jM → Prop} {x1 : Int32} {t : Nat} (hG : gGG G) (hP : gPP μ) (ht : tO gTold pTold G μ t) (q12_0 : μ.2.2 12 0 = some t) 
    (k0 : J l mX1_leavesNobodyFree (jZ0 4 G (pI φ)) G 0 0 13 [.ref 57, .int x1, .int (μ.1 t 2), .int 0] [] μ) :
    J l mX1_leavesNobodyFree (jZ0 4 G (pI φ)) G 0 0 0 [.ref 57, .int x1, .null, .null] [] μ := by
  refine j_aload_n dX1_leavesNobodyFree_0 rfl rfl ?_
  refine j_getR (ci := 1) (N := 9) (f := 3) (T := TX1) 12 dX1_leavesNobodyFree_1 rfl (hG 57 (6, 9) rfl) rfl (by decide) fl_X1_32 rfl (hP 57 3 12 rfl) ?_
  refine j_getR (ci := 10) (N := 11) (f := 0) (T := TX10) t dX1_leavesNobodyFree_4 rfl (hG 12 (15, 11) rfl) rfl (by decide) fl_X1_58 rfl q12_0 ?_
  refine j_getI (ci := 8) (N := 20) (f := 2) (T := TX8) dX1_leavesNobodyFree_7 rfl (ht.1 0 (13, 20) rfl) rfl (by decide) fl_X1_129 rfl ?_
  refine j_istore_n (ls' := [.ref 57, .int x1, .int (μ.1 t 2), .null]) dX1_leavesNobodyFree_10 rfl rfl (Nat.le_of_ble_eq_true rfl) rfl ?_
  refine j_iconst 0 dX1_leavesNobodyFree_11 rfl (by decide) ?_
  refine j_istore_n (ls' := [.ref 57, .int x1, .int (μ.1 t 2), .int 0]) dX1_leavesNobodyFree_12 rfl rfl (Nat.le_of_ble_eq_true rfl) rfl ?_
  exact k0 
theorem b_X1_leavesNobodyFree_13 {l : Launch} {G : jG} {μ : jM} {φ : Int32 → jM → Prop} {x1 x2 x3 : Int32} {ψ0 : jM → Prop} (hG : gGG G) (hP : gPP μ) 
    (e0 : (x2 ≤ (x3 : Int32)) → jC0 l mX10_changeGates 1 G [.ref 12, .int x1] μ (pV ψ0)) 
    (k0 : (x2 ≤ (x3 : Int32)) → ∀ μ', ψ0 μ' → J l mX1_leavesNobodyFree (jZ0 4 G (pI φ)) G 0 0 54 [.ref 57, .int x1, .int x2, .null] [] μ') 
    (o0 : (¬ (x2 ≤ (x3 : Int32))) → vp_in x3 7) 
    (k1 : (¬ (x2 ≤ (x3 : Int32))) → ((μ.1 62 (Int32.toNatClampNeg x3)) = (0 : Int32)) → J l mX1_leavesNobodyFree (jZ0 4 G (pI φ)) G 0 0 13 [.ref 57, .int x1, .int x2, .int (x3 + 1)] [] μ) 
    (k2 : (¬ (x2 ≤ (x3 : Int32))) → (¬ ((μ.1 62 (Int32.toNatClampNeg x3)) = (0 : Int32))) → (¬ ((μ.1 62 (Int32.toNatClampNeg x3)) &&& x1) = (0 : Int32)) → J l mX1_leavesNobodyFree (jZ0 4 G (pI φ)) G 0 0 13 [.ref 57, .int x1, .int x2, .int (x3 + 1)] [] μ) 
    (k3 : (¬ (x2 ≤ (x3 : Int32))) → (¬ ((μ.1 62 (Int32.toNatClampNeg x3)) = (0 : Int32))) → (((μ.1 62 (Int32.toNatClampNeg x3)) &&& x1) = (0 : Int32)) → φ 0 μ) :
    J l mX1_leavesNobodyFree (jZ0 4 G (pI φ)) G 0 0 13 [.ref 57, .int x1, .int x2, .int x3] [] μ := by
  refine j_iload_n dX1_leavesNobodyFree_13 rfl rfl ?_
  refine j_iload_n dX1_leavesNobodyFree_14 rfl rfl ?_
  refine j_icmp_ge 46 dX1_leavesNobodyFree_15 rfl (by decide) (fun c0 => ?_) (fun c0 => ?_)
  · skip
    refine j_aload_n dX1_leavesNobodyFree_46 rfl rfl ?_
    refine j_getR (ci := 1) (N := 9) (f := 3) (T := TX1) 12 dX1_leavesNobodyFree_47 rfl (hG 57 (6, 9) rfl) rfl (by decide) fl_X1_32 rfl (hP 57 3 12 rfl) ?_
    refine j_iload_n dX1_leavesNobodyFree_50 rfl rfl ?_
    refine j_cV (as := [.int x1]) (rest := []) dX1_leavesNobodyFree_51 rfl vw_X1_138 (hG 12 (15, 11) rfl) rfl ⟨Nat.le_of_ble_eq_true rfl, Nat.le_of_ble_eq_true rfl⟩ rfl rfl (fun _ _ => Nat.le_of_ble_eq_true rfl) (e0 c0) (fun r μ' hr => ?_)
    obtain ⟨rfl, hr⟩ := hr
    refine j_forget (ls' := [.ref 57, .int x1, .int x2, .null]) ⟨Or.inr rfl, Or.inr rfl, Or.inr rfl, Or.inl rfl, trivial⟩ ?_
    exact k0 c0 μ' hr
  · skip
    refine j_aload_n dX1_leavesNobodyFree_18 rfl rfl ?_
    refine j_getR (ci := 1) (N := 9) (f := 8) (T := TX1) 62 dX1_leavesNobodyFree_19 rfl (hG 57 (6, 9) rfl) rfl (by decide) fl_X1_29 rfl (hP 57 8 62 rfl) ?_
    refine j_iload_n dX1_leavesNobodyFree_22 rfl rfl ?_
    refine j_iald' (j := (Int32.toNatClampNeg x3)) dX1_leavesNobodyFree_23 rfl (hG 62 (0, 7) rfl) (o0 c0) rfl ?_
    refine j_if_eq 40 dX1_leavesNobodyFree_24 rfl (by decide) (fun c1 => ?_) (fun c1 => ?_)
    · skip
      refine j_iinc (x3 + 1) (ls' := [.ref 57, .int x1, .int x2, .int (x3 + 1)]) dX1_leavesNobodyFree_40 rfl rfl rfl (Nat.le_of_ble_eq_true rfl) rfl ?_
      refine j_goto 13 dX1_leavesNobodyFree_43 (by decide) ?_
      exact k1 c0 c1
    · skip
      refine j_aload_n dX1_leavesNobodyFree_27 rfl rfl ?_
      refine j_getR (ci := 1) (N := 9) (f := 8) (T := TX1) 62 dX1_leavesNobodyFree_28 rfl (hG 57 (6, 9) rfl) rfl (by decide) fl_X1_29 rfl (hP 57 8 62 rfl) ?_
      refine j_iload_n dX1_leavesNobodyFree_31 rfl rfl ?_
      refine j_iald' (j := (Int32.toNatClampNeg x3)) dX1_leavesNobodyFree_32 rfl (hG 62 (0, 7) rfl) (o0 c0) rfl ?_
      refine j_iload_n dX1_leavesNobodyFree_33 rfl rfl ?_
      refine j_iand dX1_leavesNobodyFree_34 rfl ?_
      refine j_if_ne 40 dX1_leavesNobodyFree_35 rfl (by decide) (fun c2 => ?_) (fun c2 => ?_)
      · skip
        refine j_iinc (x3 + 1) (ls' := [.ref 57, .int x1, .int x2, .int (x3 + 1)]) dX1_leavesNobodyFree_40 rfl rfl rfl (Nat.le_of_ble_eq_true rfl) rfl ?_
        refine j_goto 13 dX1_leavesNobodyFree_43 (by decide) ?_
        exact k2 c0 c1 c2
      · skip
        refine j_iconst 0 dX1_leavesNobodyFree_38 rfl (by decide) ?_
        exact j_zret dX1_leavesNobodyFree_39 rfl (by decide) (k3 c0 c1 c2)
theorem b_X1_leavesNobodyFree_54 {l : Launch} {G : jG} {μ : jM} {φ : Int32 → jM → Prop} {x1 x2 : Int32} (hG : gGG G) (hP : gPP μ) 
    (k0 : J l mX1_leavesNobodyFree (jZ0 4 G (pI φ)) G 0 0 56 [.ref 57, .int x1, .int x2, .int 0] [] μ) :
    J l mX1_leavesNobodyFree (jZ0 4 G (pI φ)) G 0 0 54 [.ref 57, .int x1, .int x2, .null] [] μ := by
  refine j_iconst 0 dX1_leavesNobodyFree_54 rfl (by decide) ?_
  refine j_istore_n (ls' := [.ref 57, .int x1, .int x2, .int 0]) dX1_leavesNobodyFree_55 rfl rfl (Nat.le_of_ble_eq_true rfl) rfl ?_
  exact k0 
theorem b_X1_leavesNobodyFree_56 {l : Launch} {G : jG} {μ : jM} {φ : Int32 → jM → Prop} {x1 x2 x3 : Int32} {ψ1 : Int32 → jM → Prop} (hG : gGG G) (hP : gPP μ) 
    (k0 : (x2 ≤ (x3 : Int32)) → φ 1 μ) 
    (e1 : (¬ (x2 ≤ (x3 : Int32))) → jC0 l mX10_findWay 3 G [.ref 12, .int x3] μ (pI ψ1)) 
    (k1 : (¬ (x2 ≤ (x3 : Int32))) → ∀ v μ', ψ1 v μ' → J l mX1_leavesNobodyFree (jZ0 4 G (pI φ)) G 0 0 69 [.ref 57, .int x1, .int x2, .int x3] [.int v] μ') :
    J l mX1_leavesNobodyFree (jZ0 4 G (pI φ)) G 0 0 56 [.ref 57, .int x1, .int x2, .int x3] [] μ := by
  refine j_iload_n dX1_leavesNobodyFree_56 rfl rfl ?_
  refine j_iload_n dX1_leavesNobodyFree_57 rfl rfl ?_
  refine j_icmp_ge 97 dX1_leavesNobodyFree_58 rfl (by decide) (fun c0 => ?_) (fun c0 => ?_)
  · skip
    refine j_iconst 1 dX1_leavesNobodyFree_97 rfl (by decide) ?_
    exact j_zret dX1_leavesNobodyFree_98 rfl (by decide) (k0 c0)
  · skip
    refine j_aload_n dX1_leavesNobodyFree_61 rfl rfl ?_
    refine j_getR (ci := 1) (N := 9) (f := 3) (T := TX1) 12 dX1_leavesNobodyFree_62 rfl (hG 57 (6, 9) rfl) rfl (by decide) fl_X1_32 rfl (hP 57 3 12 rfl) ?_
    refine j_iload_n dX1_leavesNobodyFree_65 rfl rfl ?_
    refine j_cV (as := [.int x3]) (rest := []) dX1_leavesNobodyFree_66 rfl vw_X1_104 (hG 12 (15, 11) rfl) rfl ⟨Nat.le_of_ble_eq_true rfl, Nat.le_of_ble_eq_true rfl⟩ rfl rfl (fun _ _ => Nat.le_of_ble_eq_true rfl) (e1 c0) (fun r μ' hr => ?_)
    obtain ⟨v, rfl, hr⟩ := hr
    exact k1 c0 v μ' hr
theorem b_X1_leavesNobodyFree_69 {l : Launch} {G : jG} {μ : jM} {φ : Int32 → jM → Prop} {x1 x2 x3 z0 : Int32} {y : Nat} (hG : gGG G) (hP : gPP μ) (hy : tO gWay pWay G μ y) 
    (k0 : (z0 = (0 : Int32)) → J l mX1_leavesNobodyFree (jZ0 4 G (pI φ)) G 0 0 56 [.ref 57, .int x1, .int x2, .int (x3 + 1)] [] μ) 
    (o0 : (¬ (z0 = (0 : Int32))) → vp_in x3 7) 
    (o1 : (¬ (z0 = (0 : Int32))) → μ.2.2 13 (Int32.toNatClampNeg x3) = some y) 
    (k1 : (¬ (z0 = (0 : Int32))) → (¬ ((μ.1 y 7) &&& x1) = (0 : Int32)) → J l mX1_leavesNobodyFree (jZ0 4 G (pI φ)) G 0 0 56 [.ref 57, .int x1, .int x2, .int (x3 + 1)] [] μ) 
    (k2 : (¬ (z0 = (0 : Int32))) → (((μ.1 y 7) &&& x1) = (0 : Int32)) → φ 0 μ) :
    J l mX1_leavesNobodyFree (jZ0 4 G (pI φ)) G 0 0 69 [.ref 57, .int x1, .int x2, .int x3] [.int z0] μ := by
  refine j_if_eq 91 dX1_leavesNobodyFree_69 rfl (by decide) (fun c0 => ?_) (fun c0 => ?_)
  · skip
    refine j_iinc (x3 + 1) (ls' := [.ref 57, .int x1, .int x2, .int (x3 + 1)]) dX1_leavesNobodyFree_91 rfl rfl rfl (Nat.le_of_ble_eq_true rfl) rfl ?_
    refine j_goto 56 dX1_leavesNobodyFree_94 (by decide) ?_
    exact k0 c0
  · skip
    refine j_aload_n dX1_leavesNobodyFree_72 rfl rfl ?_
    refine j_getR (ci := 1) (N := 9) (f := 3) (T := TX1) 12 dX1_leavesNobodyFree_73 rfl (hG 57 (6, 9) rfl) rfl (by decide) fl_X1_32 rfl (hP 57 3 12 rfl) ?_
    refine j_getR (ci := 10) (N := 11) (f := 3) (T := TX10) 13 dX1_leavesNobodyFree_76 rfl (hG 12 (15, 11) rfl) rfl (by decide) fl_X1_107 rfl (hP 12 3 13 rfl) ?_
    refine j_iload_n dX1_leavesNobodyFree_79 rfl rfl ?_
    refine j_aald' (j := (Int32.toNatClampNeg x3)) dX1_leavesNobodyFree_80 rfl (hG 13 (4, 7) rfl) (o0 c0) rfl (o1 c0) ?_
    refine j_getI (ci := 9) (N := 9) (f := 7) (T := TX9) dX1_leavesNobodyFree_81 rfl (hy.1 0 (14, 9) rfl) rfl (by decide) fl_X1_132 rfl ?_
    refine j_iload_n dX1_leavesNobodyFree_84 rfl rfl ?_
    refine j_iand dX1_leavesNobodyFree_85 rfl ?_
    refine j_if_ne 91 dX1_leavesNobodyFree_86 rfl (by decide) (fun c1 => ?_) (fun c1 => ?_)
    · skip
      refine j_iinc (x3 + 1) (ls' := [.ref 57, .int x1, .int x2, .int (x3 + 1)]) dX1_leavesNobodyFree_91 rfl rfl rfl (Nat.le_of_ble_eq_true rfl) rfl ?_
      refine j_goto 56 dX1_leavesNobodyFree_94 (by decide) ?_
      exact k1 c0 c1
    · skip
      refine j_iconst 0 dX1_leavesNobodyFree_89 rfl (by decide) ?_
      exact j_zret dX1_leavesNobodyFree_90 rfl (by decide) (k2 c0 c1)
theorem b_X1_bothRest_0 {l : Launch} {G : jG} {μ : jM} {φ : Int32 → jM → Prop} {x1 : Int32} (hG : gGG G) (hP : gPP μ) 
    (k0 : J l mX1_bothRest (jZ0 0 G (pI φ)) G 0 0 11 [.ref 57, .int x1, .int (x1 / 4), .int (x1 - x1 / 4 * 4), .int 0] [] μ) :
    J l mX1_bothRest (jZ0 0 G (pI φ)) G 0 0 0 [.ref 57, .int x1, .null, .null, .null] [] μ := by
  refine j_iload_n dX1_bothRest_0 rfl rfl ?_
  refine j_iconst 4 dX1_bothRest_1 rfl (by decide) ?_
  refine j_idiv dX1_bothRest_2 rfl (by decide) ?_
  refine j_istore_n (ls' := [.ref 57, .int x1, .int (x1 / 4), .null, .null]) dX1_bothRest_3 rfl rfl (Nat.le_of_ble_eq_true rfl) rfl ?_
  refine j_iload_n dX1_bothRest_4 rfl rfl ?_
  refine j_iconst 4 dX1_bothRest_5 rfl (by decide) ?_
  refine j_irem dX1_bothRest_6 rfl (by decide) ?_
  refine j_istore_n (ls' := [.ref 57, .int x1, .int (x1 / 4), .int (x1 - x1 / 4 * 4), .null]) dX1_bothRest_7 rfl rfl (Nat.le_of_ble_eq_true rfl) rfl ?_
  refine j_iconst 0 dX1_bothRest_8 rfl (by decide) ?_
  refine j_istore (ls' := [.ref 57, .int x1, .int (x1 / 4), .int (x1 - x1 / 4 * 4), .int 0]) dX1_bothRest_9 rfl (Nat.le_of_ble_eq_true rfl) rfl ?_
  exact k0 
theorem b_X1_bothRest_11 {l : Launch} {G : jG} {μ : jM} {φ : Int32 → jM → Prop} {x1 x2 x3 x4 : Int32} (hG : gGG G) (hP : gPP μ) 
    (k0 : (4 ≤ (x4 : Int32)) → φ 1 μ) 
    (o0 : (¬ (4 ≤ (x4 : Int32))) → vp_in ((4 * x4) + x3) 16) 
    (o1 : (¬ (4 ≤ (x4 : Int32))) → vp_in x1 16) 
    (o2 : (¬ (4 ≤ (x4 : Int32))) → ((μ.1 60 (Int32.toNatClampNeg ((4 * x4) + x3))) ≤ ((μ.1 60 (Int32.toNatClampNeg x1)) : Int32)) → vp_in ((4 * x2) + x4) 16) 
    (k1 : (¬ (4 ≤ (x4 : Int32))) → ((μ.1 60 (Int32.toNatClampNeg ((4 * x4) + x3))) ≤ ((μ.1 60 (Int32.toNatClampNeg x1)) : Int32)) → ((μ.1 61 (Int32.toNatClampNeg ((4 * x2) + x4))) ≤ ((μ.1 61 (Int32.toNatClampNeg x1)) : Int32)) → J l mX1_bothRest (jZ0 0 G (pI φ)) G 0 0 11 [.ref 57, .int x1, .int x2, .int x3, .int (x4 + 1)] [] μ) 
    (k2 : (¬ (4 ≤ (x4 : Int32))) → ((μ.1 60 (Int32.toNatClampNeg ((4 * x4) + x3))) ≤ ((μ.1 60 (Int32.toNatClampNeg x1)) : Int32)) → (¬ ((μ.1 61 (Int32.toNatClampNeg ((4 * x2) + x4))) ≤ ((μ.1 61 (Int32.toNatClampNeg x1)) : Int32))) → φ 0 μ) 
    (k3 : (¬ (4 ≤ (x4 : Int32))) → (¬ ((μ.1 60 (Int32.toNatClampNeg ((4 * x4) + x3))) ≤ ((μ.1 60 (Int32.toNatClampNeg x1)) : Int32))) → φ 0 μ) :
    J l mX1_bothRest (jZ0 0 G (pI φ)) G 0 0 11 [.ref 57, .int x1, .int x2, .int x3, .int x4] [] μ := by
  refine j_iload dX1_bothRest_11 rfl rfl ?_
  refine j_iconst 4 dX1_bothRest_13 rfl (by decide) ?_
  refine j_icmp_ge 67 dX1_bothRest_14 rfl (by decide) (fun c0 => ?_) (fun c0 => ?_)
  · skip
    refine j_iconst 1 dX1_bothRest_67 rfl (by decide) ?_
    exact j_zret dX1_bothRest_68 rfl (by decide) (k0 c0)
  · skip
    refine j_aload_n dX1_bothRest_17 rfl rfl ?_
    refine j_getR (ci := 1) (N := 9) (f := 6) (T := TX1) 60 dX1_bothRest_18 rfl (hG 57 (6, 9) rfl) rfl (by decide) fl_X1_22 rfl (hP 57 6 60 rfl) ?_
    refine j_iconst 4 dX1_bothRest_21 rfl (by decide) ?_
    refine j_iload dX1_bothRest_22 rfl rfl ?_
    refine j_imul dX1_bothRest_24 rfl ?_
    refine j_iload_n dX1_bothRest_25 rfl rfl ?_
    refine j_iadd dX1_bothRest_26 rfl ?_
    refine j_iald' (j := (Int32.toNatClampNeg ((4 * x4) + x3))) dX1_bothRest_27 rfl (hG 60 (0, 16) rfl) (o0 c0) rfl ?_
    refine j_aload_n dX1_bothRest_28 rfl rfl ?_
    refine j_getR (ci := 1) (N := 9) (f := 6) (T := TX1) 60 dX1_bothRest_29 rfl (hG 57 (6, 9) rfl) rfl (by decide) fl_X1_22 rfl (hP 57 6 60 rfl) ?_
    refine j_iload_n dX1_bothRest_32 rfl rfl ?_
    refine j_iald' (j := (Int32.toNatClampNeg x1)) dX1_bothRest_33 rfl (hG 60 (0, 16) rfl) (o1 c0) rfl ?_
    refine j_icmp_le 39 dX1_bothRest_34 rfl (by decide) (fun c1 => ?_) (fun c1 => ?_)
    · skip
      refine j_aload_n dX1_bothRest_39 rfl rfl ?_
      refine j_getR (ci := 1) (N := 9) (f := 7) (T := TX1) 61 dX1_bothRest_40 rfl (hG 57 (6, 9) rfl) rfl (by decide) fl_X1_26 rfl (hP 57 7 61 rfl) ?_
      refine j_iconst 4 dX1_bothRest_43 rfl (by decide) ?_
      refine j_iload_n dX1_bothRest_44 rfl rfl ?_
      refine j_imul dX1_bothRest_45 rfl ?_
      refine j_iload dX1_bothRest_46 rfl rfl ?_
      refine j_iadd dX1_bothRest_48 rfl ?_
      refine j_iald' (j := (Int32.toNatClampNeg ((4 * x2) + x4))) dX1_bothRest_49 rfl (hG 61 (0, 16) rfl) (o2 c0 c1) rfl ?_
      refine j_aload_n dX1_bothRest_50 rfl rfl ?_
      refine j_getR (ci := 1) (N := 9) (f := 7) (T := TX1) 61 dX1_bothRest_51 rfl (hG 57 (6, 9) rfl) rfl (by decide) fl_X1_26 rfl (hP 57 7 61 rfl) ?_
      refine j_iload_n dX1_bothRest_54 rfl rfl ?_
      refine j_iald' (j := (Int32.toNatClampNeg x1)) dX1_bothRest_55 rfl (hG 61 (0, 16) rfl) (o1 c0) rfl ?_
      refine j_icmp_le 61 dX1_bothRest_56 rfl (by decide) (fun c2 => ?_) (fun c2 => ?_)
      · skip
        refine j_iinc (x4 + 1) (ls' := [.ref 57, .int x1, .int x2, .int x3, .int (x4 + 1)]) dX1_bothRest_61 rfl rfl rfl (Nat.le_of_ble_eq_true rfl) rfl ?_
        refine j_goto 11 dX1_bothRest_64 (by decide) ?_
        exact k1 c0 c1 c2
      · skip
        refine j_iconst 0 dX1_bothRest_59 rfl (by decide) ?_
        exact j_zret dX1_bothRest_60 rfl (by decide) (k2 c0 c1 c2)
    · skip
      refine j_iconst 0 dX1_bothRest_37 rfl (by decide) ?_
      exact j_zret dX1_bothRest_38 rfl (by decide) (k3 c0 c1)
theorem b_X1_firstBit_0 {l : Launch} {G : jG} {μ : jM} {φ : Int32 → jM → Prop} {x0 : Int32} (hG : gGG G) (hP : gPP μ) 
    (k0 : J l mX1_firstBit (jZ0 0 G (pI φ)) G 0 0 2 [.int x0, .int 0] [] μ) :
    J l mX1_firstBit (jZ0 0 G (pI φ)) G 0 0 0 [.int x0, .null] [] μ := by
  refine j_iconst 0 dX1_firstBit_0 rfl (by decide) ?_
  refine j_istore_n (ls' := [.int x0, .int 0]) dX1_firstBit_1 rfl rfl (Nat.le_of_ble_eq_true rfl) rfl ?_
  exact k0 
theorem b_X1_firstBit_2 {l : Launch} {G : jG} {μ : jM} {φ : Int32 → jM → Prop} {x0 x1 : Int32} (hG : gGG G) (hP : gPP μ) 
    (k0 : (12 ≤ (x1 : Int32)) → φ (-1) μ) 
    (k1 : (¬ (12 ≤ (x1 : Int32))) → (((x0 >>> (x1 &&& 31)) &&& 1) = (0 : Int32)) → J l mX1_firstBit (jZ0 0 G (pI φ)) G 0 0 2 [.int x0, .int (x1 + 1)] [] μ) 
    (k2 : (¬ (12 ≤ (x1 : Int32))) → (¬ (((x0 >>> (x1 &&& 31)) &&& 1) = (0 : Int32))) → φ x1 μ) :
    J l mX1_firstBit (jZ0 0 G (pI φ)) G 0 0 2 [.int x0, .int x1] [] μ := by
  refine j_iload_n dX1_firstBit_2 rfl rfl ?_
  refine j_bipush 12 dX1_firstBit_3 rfl (by decide) ?_
  refine j_icmp_ge 24 dX1_firstBit_5 rfl (by decide) (fun c0 => ?_) (fun c0 => ?_)
  · skip
    refine j_iconst (-1) dX1_firstBit_24 rfl (by decide) ?_
    exact j_iret dX1_firstBit_25 rfl (k0 c0)
  · skip
    refine j_iload_n dX1_firstBit_8 rfl rfl ?_
    refine j_iload_n dX1_firstBit_9 rfl rfl ?_
    refine j_ishr dX1_firstBit_10 rfl ?_
    refine j_iconst 1 dX1_firstBit_11 rfl (by decide) ?_
    refine j_iand dX1_firstBit_12 rfl ?_
    refine j_if_eq 18 dX1_firstBit_13 rfl (by decide) (fun c1 => ?_) (fun c1 => ?_)
    · skip
      refine j_iinc (x1 + 1) (ls' := [.int x0, .int (x1 + 1)]) dX1_firstBit_18 rfl rfl rfl (Nat.le_of_ble_eq_true rfl) rfl ?_
      refine j_goto 2 dX1_firstBit_21 (by decide) ?_
      exact k1 c0 c1
    · skip
      refine j_iload_n dX1_firstBit_16 rfl rfl ?_
      exact j_iret dX1_firstBit_17 rfl (k2 c0 c1)
