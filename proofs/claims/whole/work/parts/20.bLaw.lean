theorem b_X2_clear_0 {l : Launch} {G : jG} {μ : jM} {φ : jM → Prop} {ψ0 : jM → Prop} {w : Nat} (hG : gGG G) (hP : gPP μ) (hw : tO gLaw pLaw G μ w) 
    (e0 : jC0 l mJA_fill_JJ 0 G [.ref (w + 1), .long (-1)] (wL (wI μ w 5 0) w 0 0) (pV ψ0)) 
    (k0 : ∀ μ', ψ0 μ' → J l mX2_clear (jZ0 1 G (pV φ)) G 0 0 20 [.null] [] μ') :
    J l mX2_clear (jZ0 1 G (pV φ)) G 0 0 0 [.ref w] [] μ := by
  refine j_aload_n dX2_clear_0 rfl rfl ?_
  refine j_iconst 0 dX2_clear_1 rfl (by decide) ?_
  refine j_putI (ci := 2) (N := 6) (f := 5) (T := TX2) dX2_clear_2 rfl (hw.1 0 (7, 6) rfl) rfl (by decide) fl_X2_26 rfl rfl ?_
  refine j_aload_n dX2_clear_5 rfl rfl ?_
  refine j_lconst 0 dX2_clear_6 rfl (by decide) ?_
  refine j_putL (ci := 2) (N := 6) (f := 0) (T := TX2) dX2_clear_7 rfl (hw.1 0 (7, 6) rfl) rfl (by decide) fl_X2_29 rfl rfl ?_
  refine j_aload_n dX2_clear_10 rfl rfl ?_
  refine j_getR (ci := 2) (N := 6) (f := 1) (T := TX2) (w + 1) dX2_clear_11 rfl (hw.1 0 (7, 6) rfl) rfl (by decide) fl_X2_11 rfl (hw.2 0 1 1 rfl) ?_
  refine j_ldc2 (-1) dX2_clear_14 rfl ck_X2_33 ?_
  refine j_cS (as := [.ref (w + 1), .long (-1)]) (rest := []) dX2_clear_17 rfl vw_X2_35 ⟨Nat.le_of_ble_eq_true rfl, Nat.le_of_ble_eq_true rfl⟩ rfl rfl (fun _ _ => Nat.le_of_ble_eq_true rfl) (e0 ) (fun r μ' hr => ?_)
  obtain ⟨rfl, hr⟩ := hr
  refine j_forget (ls' := [.null]) ⟨Or.inl rfl, trivial⟩ ?_
  exact k0  μ' hr
theorem b_X2_clear_20 {l : Launch} {G : jG} {μ : jM} {φ : jM → Prop} (hG : gGG G) (hP : gPP μ) 
    (k0 : φ μ) :
    J l mX2_clear (jZ0 1 G (pV φ)) G 0 0 20 [.null] [] μ := by
  exact j_vret dX2_clear_20 rfl (k0 )
theorem b_X2_add_0 {l : Launch} {G : jG} {μ : jM} {φ : Int32 → jM → Prop} {x1 x2 : Int32} {w : Nat} (hG : gGG G) (hP : gPP μ) (hw : tO gLaw pLaw G μ w) 
    (k0 : (400 ≤ ((μ.1 w 5) : Int32)) → φ (μ.1 w 5) μ) 
    (o0 : (¬ (400 ≤ ((μ.1 w 5) : Int32))) → vp_in (μ.1 w 5) 400) 
    (k1 : (¬ (400 ≤ ((μ.1 w 5) : Int32))) → φ (μ.1 w 5) (wI (wI μ (w + 3) (Int32.toNatClampNeg (μ.1 w 5)) ((x2 <<< (3 &&& 31)) ||| x1)) w 5 (((wI μ (w + 3) (Int32.toNatClampNeg (μ.1 w 5)) ((x2 <<< (3 &&& 31)) ||| x1)).1 w 5) + 1))) :
    J l mX2_add (jZ0 0 G (pI φ)) G 0 0 0 [.ref w, .int x1, .int x2, .null] [] μ := by
  refine j_aload_n dX2_add_0 rfl rfl ?_
  refine j_getI (ci := 2) (N := 6) (f := 5) (T := TX2) dX2_add_1 rfl (hw.1 0 (7, 6) rfl) rfl (by decide) fl_X2_26 rfl ?_
  refine j_istore_n (ls' := [.ref w, .int x1, .int x2, .int (μ.1 w 5)]) dX2_add_4 rfl rfl (Nat.le_of_ble_eq_true rfl) rfl ?_
  refine j_iload_n dX2_add_5 rfl rfl ?_
  refine j_sipush 400 dX2_add_6 rfl (by decide) ?_
  refine j_icmp_ge 33 dX2_add_9 rfl (by decide) (fun c0 => ?_) (fun c0 => ?_)
  · skip
    refine j_iload_n dX2_add_33 rfl rfl ?_
    exact j_iret dX2_add_34 rfl (k0 c0)
  · skip
    refine j_aload_n dX2_add_12 rfl rfl ?_
    refine j_getR (ci := 2) (N := 6) (f := 4) (T := TX2) (w + 3) dX2_add_13 rfl (hw.1 0 (7, 6) rfl) rfl (by decide) fl_X2_19 rfl (hw.2 0 4 3 rfl) ?_
    refine j_iload_n dX2_add_16 rfl rfl ?_
    refine j_iload_n dX2_add_17 rfl rfl ?_
    refine j_iconst 3 dX2_add_18 rfl (by decide) ?_
    refine j_ishl dX2_add_19 rfl ?_
    refine j_iload_n dX2_add_20 rfl rfl ?_
    refine j_ior dX2_add_21 rfl ?_
    refine j_iast' (j := (Int32.toNatClampNeg (μ.1 w 5))) dX2_add_22 rfl (hw.1 3 (0, 400) rfl) (o0 c0) rfl ?_
    refine j_aload_n dX2_add_23 rfl rfl ?_
    refine j_dup dX2_add_24 rfl (fun _ _ => rfl) ?_
    refine j_getI (ci := 2) (N := 6) (f := 5) (T := TX2) dX2_add_25 rfl (hw.1 0 (7, 6) rfl) rfl (by decide) fl_X2_26 rfl ?_
    refine j_iconst 1 dX2_add_28 rfl (by decide) ?_
    refine j_iadd dX2_add_29 rfl ?_
    refine j_putI (ci := 2) (N := 6) (f := 5) (T := TX2) dX2_add_30 rfl (hw.1 0 (7, 6) rfl) rfl (by decide) fl_X2_26 rfl rfl ?_
    refine j_iload_n dX2_add_33 rfl rfl ?_
    exact j_iret dX2_add_34 rfl (k1 c0)
theorem b_X2_addVar_0 {l : Launch} {G : jG} {μ : jM} {φ : jM → Prop} {x1 : Int32} {ψ0 : Int32 → jM → Prop} {ψ1 : Int32 → jM → Prop} {w : Nat} (hG : gGG G) (hP : gPP μ) (hw : tO gLaw pLaw G μ w) 
    (e0 : (¬ (((μ.1 w 3) >>> (x1 &&& 31)) &&& 1) = (0 : Int32)) → jC0 l mX2_add 0 G [.ref w, .int 1, .int x1] μ (pI ψ0)) 
    (k0 : (¬ (((μ.1 w 3) >>> (x1 &&& 31)) &&& 1) = (0 : Int32)) → ∀ v μ', ψ0 v μ' → J l mX2_addVar (jZ0 1 G (pV φ)) G 0 0 25 [.ref w, .int x1] [.int v] μ') 
    (e1 : ((((μ.1 w 3) >>> (x1 &&& 31)) &&& 1) = (0 : Int32)) → jC0 l mX2_add 0 G [.ref w, .int 0, .int 0] μ (pI ψ1)) 
    (k1 : ((((μ.1 w 3) >>> (x1 &&& 31)) &&& 1) = (0 : Int32)) → ∀ v μ', ψ1 v μ' → J l mX2_addVar (jZ0 1 G (pV φ)) G 0 0 17 [.null, .null] [.int v] μ') :
    J l mX2_addVar (jZ0 1 G (pV φ)) G 0 0 0 [.ref w, .int x1] [] μ := by
  refine j_aload_n dX2_addVar_0 rfl rfl ?_
  refine j_getI (ci := 2) (N := 6) (f := 3) (T := TX2) dX2_addVar_1 rfl (hw.1 0 (7, 6) rfl) rfl (by decide) fl_X2_22 rfl ?_
  refine j_iload_n dX2_addVar_4 rfl rfl ?_
  refine j_ishr dX2_addVar_5 rfl ?_
  refine j_iconst 1 dX2_addVar_6 rfl (by decide) ?_
  refine j_iand dX2_addVar_7 rfl ?_
  refine j_if_ne 19 dX2_addVar_8 rfl (by decide) (fun c0 => ?_) (fun c0 => ?_)
  · skip
    refine j_aload_n dX2_addVar_19 rfl rfl ?_
    refine j_iconst 1 dX2_addVar_20 rfl (by decide) ?_
    refine j_iload_n dX2_addVar_21 rfl rfl ?_
    refine j_cV (as := [.int 1, .int x1]) (rest := []) dX2_addVar_22 rfl vw_X2_41 (hw.1 0 (7, 6) rfl) rfl ⟨Nat.le_of_ble_eq_true rfl, Nat.le_of_ble_eq_true rfl⟩ rfl rfl (fun _ _ => Nat.le_of_ble_eq_true rfl) (e0 c0) (fun r μ' hr => ?_)
    obtain ⟨v, rfl, hr⟩ := hr
    exact k0 c0 v μ' hr
  · skip
    refine j_aload_n dX2_addVar_11 rfl rfl ?_
    refine j_iconst 0 dX2_addVar_12 rfl (by decide) ?_
    refine j_iconst 0 dX2_addVar_13 rfl (by decide) ?_
    refine j_cV (as := [.int 0, .int 0]) (rest := []) dX2_addVar_14 rfl vw_X2_41 (hw.1 0 (7, 6) rfl) rfl ⟨Nat.le_of_ble_eq_true rfl, Nat.le_of_ble_eq_true rfl⟩ rfl rfl (fun _ _ => Nat.le_of_ble_eq_true rfl) (e1 c0) (fun r μ' hr => ?_)
    obtain ⟨v, rfl, hr⟩ := hr
    refine j_forget (ls' := [.null, .null]) ⟨Or.inl rfl, Or.inl rfl, trivial⟩ ?_
    exact k1 c0 v μ' hr
theorem b_X2_addVar_17 {l : Launch} {G : jG} {μ : jM} {φ : jM → Prop} {z0 : Int32} (hG : gGG G) (hP : gPP μ) 
    (k0 : φ μ) :
    J l mX2_addVar (jZ0 1 G (pV φ)) G 0 0 17 [.null, .null] [.int z0] μ := by
  refine j_pop dX2_addVar_17 rfl (fun _ _ => rfl) ?_
  exact j_vret dX2_addVar_18 rfl (k0 )
theorem b_X2_addVar_25 {l : Launch} {G : jG} {μ : jM} {φ : jM → Prop} {x1 z0 : Int32} {ψ0 : Int64 → jM → Prop} {w : Nat} (hG : gGG G) (hP : gPP μ) (hw : tO gLaw pLaw G μ w) 
    (e0 : jC0 l mX2_maskOf 0 G [.int x1] μ (pJ ψ0)) 
    (k0 : ∀ v μ', ψ0 v μ' → J l mX2_addVar (jZ0 1 G (pV φ)) G 0 0 35 [.null, .null] [.long v, .long (μ.2.1 w 0), .ref w] μ') :
    J l mX2_addVar (jZ0 1 G (pV φ)) G 0 0 25 [.ref w, .int x1] [.int z0] μ := by
  refine j_pop dX2_addVar_25 rfl (fun _ _ => rfl) ?_
  refine j_aload_n dX2_addVar_26 rfl rfl ?_
  refine j_dup dX2_addVar_27 rfl (fun _ _ => rfl) ?_
  refine j_getL (ci := 2) (N := 6) (f := 0) (T := TX2) dX2_addVar_28 rfl (hw.1 0 (7, 6) rfl) rfl (by decide) fl_X2_29 rfl ?_
  refine j_iload_n dX2_addVar_31 rfl rfl ?_
  refine j_cS (as := [.int x1]) (rest := [.long (μ.2.1 w 0), .ref w]) dX2_addVar_32 rfl vw_X2_45 ⟨Nat.le_of_ble_eq_true rfl, Nat.le_of_ble_eq_true rfl⟩ rfl rfl (fun _ _ => Nat.le_of_ble_eq_true rfl) (e0 ) (fun r μ' hr => ?_)
  obtain ⟨v, rfl, hr⟩ := hr
  refine j_forget (ls' := [.null, .null]) ⟨Or.inl rfl, Or.inl rfl, trivial⟩ ?_
  exact k0  v μ' hr
theorem b_X2_addVar_35 {l : Launch} {G : jG} {μ : jM} {φ : jM → Prop} {z0 z1 : Int64} {w : Nat} (hG : gGG G) (hP : gPP μ) (hw : tO gLaw pLaw G μ w) 
    (k0 : φ (wL μ w 0 (z1 ||| z0))) :
    J l mX2_addVar (jZ0 1 G (pV φ)) G 0 0 35 [.null, .null] [.long z0, .long z1, .ref w] μ := by
  refine j_lor dX2_addVar_35 rfl ?_
  refine j_putL (ci := 2) (N := 6) (f := 0) (T := TX2) dX2_addVar_36 rfl (hw.1 0 (7, 6) rfl) rfl (by decide) fl_X2_29 rfl rfl ?_
  exact j_vret dX2_addVar_39 rfl (k0 )
theorem b_X2_aim_0 {l : Launch} {G : jG} {μ : jM} {φ : jM → Prop} {x1 : Int32} {w : Nat} (hG : gGG G) (hP : gPP μ) (hw : tO gLaw pLaw G μ w) 
    (k0 : (x1 < (0 : Int32)) → φ μ) 
    (k1 : (¬ (x1 < (0 : Int32))) → ((μ.1 w 5) ≤ (x1 : Int32)) → φ μ) 
    (o0 : (¬ (x1 < (0 : Int32))) → (¬ ((μ.1 w 5) ≤ (x1 : Int32))) → vp_in x1 400) 
    (k2 : (¬ (x1 < (0 : Int32))) → (¬ ((μ.1 w 5) ≤ (x1 : Int32))) → φ (wI μ (w + 3) (Int32.toNatClampNeg x1) (((μ.1 w 5) <<< (3 &&& 31)) ||| 6))) :
    J l mX2_aim (jZ0 0 G (pV φ)) G 0 0 0 [.ref w, .int x1] [] μ := by
  refine j_iload_n dX2_aim_0 rfl rfl ?_
  refine j_if_lt 27 dX2_aim_1 rfl (by decide) (fun c0 => ?_) (fun c0 => ?_)
  · skip
    exact j_vret dX2_aim_27 rfl (k0 c0)
  · skip
    refine j_iload_n dX2_aim_4 rfl rfl ?_
    refine j_aload_n dX2_aim_5 rfl rfl ?_
    refine j_getI (ci := 2) (N := 6) (f := 5) (T := TX2) dX2_aim_6 rfl (hw.1 0 (7, 6) rfl) rfl (by decide) fl_X2_26 rfl ?_
    refine j_icmp_ge 27 dX2_aim_9 rfl (by decide) (fun c1 => ?_) (fun c1 => ?_)
    · skip
      exact j_vret dX2_aim_27 rfl (k1 c0 c1)
    · skip
      refine j_aload_n dX2_aim_12 rfl rfl ?_
      refine j_getR (ci := 2) (N := 6) (f := 4) (T := TX2) (w + 3) dX2_aim_13 rfl (hw.1 0 (7, 6) rfl) rfl (by decide) fl_X2_19 rfl (hw.2 0 4 3 rfl) ?_
      refine j_iload_n dX2_aim_16 rfl rfl ?_
      refine j_aload_n dX2_aim_17 rfl rfl ?_
      refine j_getI (ci := 2) (N := 6) (f := 5) (T := TX2) dX2_aim_18 rfl (hw.1 0 (7, 6) rfl) rfl (by decide) fl_X2_26 rfl ?_
      refine j_iconst 3 dX2_aim_21 rfl (by decide) ?_
      refine j_ishl dX2_aim_22 rfl ?_
      refine j_bipush 6 dX2_aim_23 rfl (by decide) ?_
      refine j_ior dX2_aim_25 rfl ?_
      refine j_iast' (j := (Int32.toNatClampNeg x1)) dX2_aim_26 rfl (hw.1 3 (0, 400) rfl) (o0 c0 c1) rfl ?_
      exact j_vret dX2_aim_27 rfl (k2 c0 c1)
theorem b_X2_looksAtFog_0 {l : Launch} {G : jG} {μ : jM} {φ : Int32 → jM → Prop} {w : Nat} (hG : gGG G) (hP : gPP μ) (hw : tO gLaw pLaw G μ w) 
    (k0 : ((lg_cmp ((μ.2.1 w 0) &&& 268435456) 0) = (0 : Int32)) → φ 0 μ) 
    (k1 : (¬ ((lg_cmp ((μ.2.1 w 0) &&& 268435456) 0) = (0 : Int32))) → φ 1 μ) :
    J l mX2_looksAtFog (jZ0 0 G (pI φ)) G 0 0 0 [.ref w] [] μ := by
  refine j_aload_n dX2_looksAtFog_0 rfl rfl ?_
  refine j_getL (ci := 2) (N := 6) (f := 0) (T := TX2) dX2_looksAtFog_1 rfl (hw.1 0 (7, 6) rfl) rfl (by decide) fl_X2_29 rfl ?_
  refine j_ldc2 268435456 dX2_looksAtFog_4 rfl ck_X2_49 ?_
  refine j_land dX2_looksAtFog_7 rfl ?_
  refine j_lconst 0 dX2_looksAtFog_8 rfl (by decide) ?_
  refine j_lcmp dX2_looksAtFog_9 rfl ?_
  refine j_if_eq 17 dX2_looksAtFog_10 rfl (by decide) (fun c0 => ?_) (fun c0 => ?_)
  · skip
    refine j_iconst 0 dX2_looksAtFog_17 rfl (by decide) ?_
    exact j_zret dX2_looksAtFog_18 rfl (by decide) (k0 c0)
  · skip
    refine j_iconst 1 dX2_looksAtFog_13 rfl (by decide) ?_
    refine j_goto 18 dX2_looksAtFog_14 (by decide) ?_
    exact j_zret dX2_looksAtFog_18 rfl (by decide) (k1 c0)
theorem b_X2_valueOf_0 {l : Launch} {G : jG} {μ : jM} {φ : Int32 → jM → Prop} {w : Nat} (hG : gGG G) (hP : gPP μ) (hw : tO gLaw pLaw G μ w) 
    (k0 : J l mX2_valueOf (jZ0 0 G (pI φ)) G 0 0 23 [.null, .ref 15, .ref 16, .ref (w + 3), .int (μ.1 w 5), .int (24 - 2), .int 2, .int 0, .null] [] μ) :
    J l mX2_valueOf (jZ0 0 G (pI φ)) G 0 0 0 [.ref w, .ref 15, .ref 16, .null, .null, .null, .null, .null, .null] [] μ := by
  refine j_aload_n dX2_valueOf_0 rfl rfl ?_
  refine j_getR (ci := 2) (N := 6) (f := 4) (T := TX2) (w + 3) dX2_valueOf_1 rfl (hw.1 0 (7, 6) rfl) rfl (by decide) fl_X2_19 rfl (hw.2 0 4 3 rfl) ?_
  refine j_astore_n (ls' := [.ref w, .ref 15, .ref 16, .ref (w + 3), .null, .null, .null, .null, .null]) dX2_valueOf_4 rfl rfl (Nat.le_of_ble_eq_true rfl) rfl ?_
  refine j_aload_n dX2_valueOf_5 rfl rfl ?_
  refine j_getI (ci := 2) (N := 6) (f := 5) (T := TX2) dX2_valueOf_6 rfl (hw.1 0 (7, 6) rfl) rfl (by decide) fl_X2_26 rfl ?_
  refine j_istore (ls' := [.ref w, .ref 15, .ref 16, .ref (w + 3), .int (μ.1 w 5), .null, .null, .null, .null]) dX2_valueOf_9 rfl (Nat.le_of_ble_eq_true rfl) rfl ?_
  refine j_aload_n dX2_valueOf_11 rfl rfl ?_
  refine j_alen 24 dX2_valueOf_12 rfl (hG 16 (0, 24) rfl) (by decide) (by decide) ?_
  refine j_iconst 2 dX2_valueOf_13 rfl (by decide) ?_
  refine j_isub dX2_valueOf_14 rfl ?_
  refine j_istore (ls' := [.ref w, .ref 15, .ref 16, .ref (w + 3), .int (μ.1 w 5), .int (24 - 2), .null, .null, .null]) dX2_valueOf_15 rfl (Nat.le_of_ble_eq_true rfl) rfl ?_
  refine j_iconst 2 dX2_valueOf_17 rfl (by decide) ?_
  refine j_istore (ls' := [.ref w, .ref 15, .ref 16, .ref (w + 3), .int (μ.1 w 5), .int (24 - 2), .int 2, .null, .null]) dX2_valueOf_18 rfl (Nat.le_of_ble_eq_true rfl) rfl ?_
  refine j_iconst 0 dX2_valueOf_20 rfl (by decide) ?_
  refine j_istore (ls' := [.ref w, .ref 15, .ref 16, .ref (w + 3), .int (μ.1 w 5), .int (24 - 2), .int 2, .int 0, .null]) dX2_valueOf_21 rfl (Nat.le_of_ble_eq_true rfl) rfl ?_
  refine j_forget (ls' := [.null, .ref 15, .ref 16, .ref (w + 3), .int (μ.1 w 5), .int (24 - 2), .int 2, .int 0, .null]) ⟨Or.inl rfl, Or.inr rfl, Or.inr rfl, Or.inr rfl, Or.inr rfl, Or.inr rfl, Or.inr rfl, Or.inr rfl, Or.inr rfl, trivial⟩ ?_
  exact k0 
theorem b_X2_valueOf_23 {l : Launch} {G : jG} {μ : jM} {φ : Int32 → jM → Prop} {x4 x5 x6 x7 : Int32} {w : Nat} (hG : gGG G) (hP : gPP μ) (hw : tO gLaw pLaw G μ w) 
    (k0 : (x4 ≤ (x7 : Int32)) → φ 0 μ) 
    (k1 : (¬ (x4 ≤ (x7 : Int32))) → (x6 < (2 : Int32)) → J l mX2_valueOf (jZ0 0 G (pI φ)) G 0 0 43 [.null, .null, .null, .null, .null, .null, .null, .null, .null] [] μ) 
    (o0 : (¬ (x4 ≤ (x7 : Int32))) → (¬ (x6 < (2 : Int32))) → (x6 ≤ (x5 : Int32)) → vp_in x7 400) 
    (o1 : (¬ (x4 ≤ (x7 : Int32))) → (¬ (x6 < (2 : Int32))) → (x6 ≤ (x5 : Int32)) → (((μ.1 (w + 3) (Int32.toNatClampNeg x7)) &&& 7) = (0 : Int32)) → vp_in (x6 + 1) 24) 
    (k2 : (¬ (x4 ≤ (x7 : Int32))) → (¬ (x6 < (2 : Int32))) → (x6 ≤ (x5 : Int32)) → (((μ.1 (w + 3) (Int32.toNatClampNeg x7)) &&& 7) = (0 : Int32)) → J l mX2_valueOf (jZ0 0 G (pI φ)) G 0 0 270 [.null, .ref 15, .ref 16, .ref (w + 3), .int x4, .int x5, .int (x6 + 1), .int x7, .null] [] (wI μ 16 (Int32.toNatClampNeg (x6 + 1)) ((μ.1 (w + 3) (Int32.toNatClampNeg x7)) >>> (3 &&& 31)))) 
    (k3 : (¬ (x4 ≤ (x7 : Int32))) → (¬ (x6 < (2 : Int32))) → (x6 ≤ (x5 : Int32)) → (¬ ((μ.1 (w + 3) (Int32.toNatClampNeg x7)) &&& 7) = (0 : Int32)) → (((μ.1 (w + 3) (Int32.toNatClampNeg x7)) &&& 7) = (1 : Int32)) → (((μ.1 (w + 3) (Int32.toNatClampNeg x7)) >>> (3 &&& 31)) < (0 : Int32)) → J l mX2_valueOf (jZ0 0 G (pI φ)) G 0 0 141 [.null, .ref 15, .ref 16, .ref (w + 3), .int x4, .int x5, .int (x6 + 1), .int x7, .null] [.int (x6 + 1), .ref 16] μ) 
    (k4 : (¬ (x4 ≤ (x7 : Int32))) → (¬ (x6 < (2 : Int32))) → (x6 ≤ (x5 : Int32)) → (¬ ((μ.1 (w + 3) (Int32.toNatClampNeg x7)) &&& 7) = (0 : Int32)) → (((μ.1 (w + 3) (Int32.toNatClampNeg x7)) &&& 7) = (1 : Int32)) → (¬ (((μ.1 (w + 3) (Int32.toNatClampNeg x7)) >>> (3 &&& 31)) < (0 : Int32))) → ((9 : Int32) ≤ (((μ.1 (w + 3) (Int32.toNatClampNeg x7)) >>> (3 &&& 31)) : Int32)) → J l mX2_valueOf (jZ0 0 G (pI φ)) G 0 0 141 [.null, .ref 15, .ref 16, .ref (w + 3), .int x4, .int x5, .int (x6 + 1), .int x7, .null] [.int (x6 + 1), .ref 16] μ) 
    (o2 : (¬ (x4 ≤ (x7 : Int32))) → (¬ (x6 < (2 : Int32))) → (x6 ≤ (x5 : Int32)) → (¬ ((μ.1 (w + 3) (Int32.toNatClampNeg x7)) &&& 7) = (0 : Int32)) → (((μ.1 (w + 3) (Int32.toNatClampNeg x7)) &&& 7) = (1 : Int32)) → (¬ (((μ.1 (w + 3) (Int32.toNatClampNeg x7)) >>> (3 &&& 31)) < (0 : Int32))) → (¬ ((9 : Int32) ≤ (((μ.1 (w + 3) (Int32.toNatClampNeg x7)) >>> (3 &&& 31)) : Int32))) → vp_in ((μ.1 (w + 3) (Int32.toNatClampNeg x7)) >>> (3 &&& 31)) 9) 
    (k5 : (¬ (x4 ≤ (x7 : Int32))) → (¬ (x6 < (2 : Int32))) → (x6 ≤ (x5 : Int32)) → (¬ ((μ.1 (w + 3) (Int32.toNatClampNeg x7)) &&& 7) = (0 : Int32)) → (((μ.1 (w + 3) (Int32.toNatClampNeg x7)) &&& 7) = (1 : Int32)) → (¬ (((μ.1 (w + 3) (Int32.toNatClampNeg x7)) >>> (3 &&& 31)) < (0 : Int32))) → (¬ ((9 : Int32) ≤ (((μ.1 (w + 3) (Int32.toNatClampNeg x7)) >>> (3 &&& 31)) : Int32))) → J l mX2_valueOf (jZ0 0 G (pI φ)) G 0 0 142 [.null, .ref 15, .ref 16, .ref (w + 3), .int x4, .int x5, .int (x6 + 1), .int x7, .null] [.int (μ.1 15 (Int32.toNatClampNeg ((μ.1 (w + 3) (Int32.toNatClampNeg x7)) >>> (3 &&& 31)))), .int (x6 + 1), .ref 16] μ) 
    (o3 : (¬ (x4 ≤ (x7 : Int32))) → (¬ (x6 < (2 : Int32))) → (x6 ≤ (x5 : Int32)) → (¬ ((μ.1 (w + 3) (Int32.toNatClampNeg x7)) &&& 7) = (0 : Int32)) → (¬ ((μ.1 (w + 3) (Int32.toNatClampNeg x7)) &&& 7) = (1 : Int32)) → (((μ.1 (w + 3) (Int32.toNatClampNeg x7)) &&& 7) = (2 : Int32)) → vp_in (x6 + (-1)) 24) 
    (o4 : (¬ (x4 ≤ (x7 : Int32))) → (¬ (x6 < (2 : Int32))) → (x6 ≤ (x5 : Int32)) → (¬ ((μ.1 (w + 3) (Int32.toNatClampNeg x7)) &&& 7) = (0 : Int32)) → (¬ ((μ.1 (w + 3) (Int32.toNatClampNeg x7)) &&& 7) = (1 : Int32)) → (((μ.1 (w + 3) (Int32.toNatClampNeg x7)) &&& 7) = (2 : Int32)) → vp_in ((x6 + (-1)) + 1) 24) 
    (k6 : (¬ (x4 ≤ (x7 : Int32))) → (¬ (x6 < (2 : Int32))) → (x6 ≤ (x5 : Int32)) → (¬ ((μ.1 (w + 3) (Int32.toNatClampNeg x7)) &&& 7) = (0 : Int32)) → (¬ ((μ.1 (w + 3) (Int32.toNatClampNeg x7)) &&& 7) = (1 : Int32)) → (((μ.1 (w + 3) (Int32.toNatClampNeg x7)) &&& 7) = (2 : Int32)) → J l mX2_valueOf (jZ0 0 G (pI φ)) G 0 0 270 [.null, .ref 15, .ref 16, .ref (w + 3), .int x4, .int x5, .int (x6 + (-1)), .int x7, .null] [] (wI μ 16 (Int32.toNatClampNeg (x6 + (-1))) ((μ.1 16 (Int32.toNatClampNeg (x6 + (-1)))) + (μ.1 16 (Int32.toNatClampNeg ((x6 + (-1)) + 1)))))) 
    (o5 : (¬ (x4 ≤ (x7 : Int32))) → (¬ (x6 < (2 : Int32))) → (x6 ≤ (x5 : Int32)) → (¬ ((μ.1 (w + 3) (Int32.toNatClampNeg x7)) &&& 7) = (0 : Int32)) → (¬ ((μ.1 (w + 3) (Int32.toNatClampNeg x7)) &&& 7) = (1 : Int32)) → (¬ ((μ.1 (w + 3) (Int32.toNatClampNeg x7)) &&& 7) = (2 : Int32)) → (((μ.1 (w + 3) (Int32.toNatClampNeg x7)) &&& 7) = (3 : Int32)) → vp_in (x6 + (-1)) 24) 
    (o6 : (¬ (x4 ≤ (x7 : Int32))) → (¬ (x6 < (2 : Int32))) → (x6 ≤ (x5 : Int32)) → (¬ ((μ.1 (w + 3) (Int32.toNatClampNeg x7)) &&& 7) = (0 : Int32)) → (¬ ((μ.1 (w + 3) (Int32.toNatClampNeg x7)) &&& 7) = (1 : Int32)) → (¬ ((μ.1 (w + 3) (Int32.toNatClampNeg x7)) &&& 7) = (2 : Int32)) → (((μ.1 (w + 3) (Int32.toNatClampNeg x7)) &&& 7) = (3 : Int32)) → vp_in ((x6 + (-1)) + 1) 24) 
    (k7 : (¬ (x4 ≤ (x7 : Int32))) → (¬ (x6 < (2 : Int32))) → (x6 ≤ (x5 : Int32)) → (¬ ((μ.1 (w + 3) (Int32.toNatClampNeg x7)) &&& 7) = (0 : Int32)) → (¬ ((μ.1 (w + 3) (Int32.toNatClampNeg x7)) &&& 7) = (1 : Int32)) → (¬ ((μ.1 (w + 3) (Int32.toNatClampNeg x7)) &&& 7) = (2 : Int32)) → (((μ.1 (w + 3) (Int32.toNatClampNeg x7)) &&& 7) = (3 : Int32)) → J l mX2_valueOf (jZ0 0 G (pI φ)) G 0 0 270 [.null, .ref 15, .ref 16, .ref (w + 3), .int x4, .int x5, .int (x6 + (-1)), .int x7, .null] [] (wI μ 16 (Int32.toNatClampNeg (x6 + (-1))) ((μ.1 16 (Int32.toNatClampNeg (x6 + (-1)))) - (μ.1 16 (Int32.toNatClampNeg ((x6 + (-1)) + 1)))))) 
    (o7 : (¬ (x4 ≤ (x7 : Int32))) → (¬ (x6 < (2 : Int32))) → (x6 ≤ (x5 : Int32)) → (¬ ((μ.1 (w + 3) (Int32.toNatClampNeg x7)) &&& 7) = (0 : Int32)) → (¬ ((μ.1 (w + 3) (Int32.toNatClampNeg x7)) &&& 7) = (1 : Int32)) → (¬ ((μ.1 (w + 3) (Int32.toNatClampNeg x7)) &&& 7) = (2 : Int32)) → (¬ ((μ.1 (w + 3) (Int32.toNatClampNeg x7)) &&& 7) = (3 : Int32)) → (((μ.1 (w + 3) (Int32.toNatClampNeg x7)) &&& 7) = (4 : Int32)) → vp_in (x6 + (-1)) 24) 
    (o8 : (¬ (x4 ≤ (x7 : Int32))) → (¬ (x6 < (2 : Int32))) → (x6 ≤ (x5 : Int32)) → (¬ ((μ.1 (w + 3) (Int32.toNatClampNeg x7)) &&& 7) = (0 : Int32)) → (¬ ((μ.1 (w + 3) (Int32.toNatClampNeg x7)) &&& 7) = (1 : Int32)) → (¬ ((μ.1 (w + 3) (Int32.toNatClampNeg x7)) &&& 7) = (2 : Int32)) → (¬ ((μ.1 (w + 3) (Int32.toNatClampNeg x7)) &&& 7) = (3 : Int32)) → (((μ.1 (w + 3) (Int32.toNatClampNeg x7)) &&& 7) = (4 : Int32)) → vp_in ((x6 + (-1)) + 1) 24) 
    (k8 : (¬ (x4 ≤ (x7 : Int32))) → (¬ (x6 < (2 : Int32))) → (x6 ≤ (x5 : Int32)) → (¬ ((μ.1 (w + 3) (Int32.toNatClampNeg x7)) &&& 7) = (0 : Int32)) → (¬ ((μ.1 (w + 3) (Int32.toNatClampNeg x7)) &&& 7) = (1 : Int32)) → (¬ ((μ.1 (w + 3) (Int32.toNatClampNeg x7)) &&& 7) = (2 : Int32)) → (¬ ((μ.1 (w + 3) (Int32.toNatClampNeg x7)) &&& 7) = (3 : Int32)) → (((μ.1 (w + 3) (Int32.toNatClampNeg x7)) &&& 7) = (4 : Int32)) → J l mX2_valueOf (jZ0 0 G (pI φ)) G 0 0 270 [.null, .ref 15, .ref 16, .ref (w + 3), .int x4, .int x5, .int (x6 + (-1)), .int x7, .null] [] (wI μ 16 (Int32.toNatClampNeg (x6 + (-1))) ((μ.1 16 (Int32.toNatClampNeg (x6 + (-1)))) * (μ.1 16 (Int32.toNatClampNeg ((x6 + (-1)) + 1)))))) 
    (o9 : (¬ (x4 ≤ (x7 : Int32))) → (¬ (x6 < (2 : Int32))) → (x6 ≤ (x5 : Int32)) → (¬ ((μ.1 (w + 3) (Int32.toNatClampNeg x7)) &&& 7) = (0 : Int32)) → (¬ ((μ.1 (w + 3) (Int32.toNatClampNeg x7)) &&& 7) = (1 : Int32)) → (¬ ((μ.1 (w + 3) (Int32.toNatClampNeg x7)) &&& 7) = (2 : Int32)) → (¬ ((μ.1 (w + 3) (Int32.toNatClampNeg x7)) &&& 7) = (3 : Int32)) → (¬ ((μ.1 (w + 3) (Int32.toNatClampNeg x7)) &&& 7) = (4 : Int32)) → (((μ.1 (w + 3) (Int32.toNatClampNeg x7)) &&& 7) = (5 : Int32)) → vp_in x6 24) 
    (o10 : (¬ (x4 ≤ (x7 : Int32))) → (¬ (x6 < (2 : Int32))) → (x6 ≤ (x5 : Int32)) → (¬ ((μ.1 (w + 3) (Int32.toNatClampNeg x7)) &&& 7) = (0 : Int32)) → (¬ ((μ.1 (w + 3) (Int32.toNatClampNeg x7)) &&& 7) = (1 : Int32)) → (¬ ((μ.1 (w + 3) (Int32.toNatClampNeg x7)) &&& 7) = (2 : Int32)) → (¬ ((μ.1 (w + 3) (Int32.toNatClampNeg x7)) &&& 7) = (3 : Int32)) → (¬ ((μ.1 (w + 3) (Int32.toNatClampNeg x7)) &&& 7) = (4 : Int32)) → (((μ.1 (w + 3) (Int32.toNatClampNeg x7)) &&& 7) = (5 : Int32)) → (¬ (μ.1 16 (Int32.toNatClampNeg x6)) = (0 : Int32)) → vp_in (x6 + (-1)) 24) 
    (o11 : (¬ (x4 ≤ (x7 : Int32))) → (¬ (x6 < (2 : Int32))) → (x6 ≤ (x5 : Int32)) → (¬ ((μ.1 (w + 3) (Int32.toNatClampNeg x7)) &&& 7) = (0 : Int32)) → (¬ ((μ.1 (w + 3) (Int32.toNatClampNeg x7)) &&& 7) = (1 : Int32)) → (¬ ((μ.1 (w + 3) (Int32.toNatClampNeg x7)) &&& 7) = (2 : Int32)) → (¬ ((μ.1 (w + 3) (Int32.toNatClampNeg x7)) &&& 7) = (3 : Int32)) → (¬ ((μ.1 (w + 3) (Int32.toNatClampNeg x7)) &&& 7) = (4 : Int32)) → (((μ.1 (w + 3) (Int32.toNatClampNeg x7)) &&& 7) = (5 : Int32)) → (¬ (μ.1 16 (Int32.toNatClampNeg x6)) = (0 : Int32)) → vp_in ((x6 + (-1)) + 1) 24) 
    (o12 : (¬ (x4 ≤ (x7 : Int32))) → (¬ (x6 < (2 : Int32))) → (x6 ≤ (x5 : Int32)) → (¬ ((μ.1 (w + 3) (Int32.toNatClampNeg x7)) &&& 7) = (0 : Int32)) → (¬ ((μ.1 (w + 3) (Int32.toNatClampNeg x7)) &&& 7) = (1 : Int32)) → (¬ ((μ.1 (w + 3) (Int32.toNatClampNeg x7)) &&& 7) = (2 : Int32)) → (¬ ((μ.1 (w + 3) (Int32.toNatClampNeg x7)) &&& 7) = (3 : Int32)) → (¬ ((μ.1 (w + 3) (Int32.toNatClampNeg x7)) &&& 7) = (4 : Int32)) → (((μ.1 (w + 3) (Int32.toNatClampNeg x7)) &&& 7) = (5 : Int32)) → (¬ (μ.1 16 (Int32.toNatClampNeg x6)) = (0 : Int32)) → ¬ ((μ.1 16 (Int32.toNatClampNeg ((x6 + (-1)) + 1))) : Int32) = 0) 
    (k9 : (¬ (x4 ≤ (x7 : Int32))) → (¬ (x6 < (2 : Int32))) → (x6 ≤ (x5 : Int32)) → (¬ ((μ.1 (w + 3) (Int32.toNatClampNeg x7)) &&& 7) = (0 : Int32)) → (¬ ((μ.1 (w + 3) (Int32.toNatClampNeg x7)) &&& 7) = (1 : Int32)) → (¬ ((μ.1 (w + 3) (Int32.toNatClampNeg x7)) &&& 7) = (2 : Int32)) → (¬ ((μ.1 (w + 3) (Int32.toNatClampNeg x7)) &&& 7) = (3 : Int32)) → (¬ ((μ.1 (w + 3) (Int32.toNatClampNeg x7)) &&& 7) = (4 : Int32)) → (((μ.1 (w + 3) (Int32.toNatClampNeg x7)) &&& 7) = (5 : Int32)) → (¬ (μ.1 16 (Int32.toNatClampNeg x6)) = (0 : Int32)) → J l mX2_valueOf (jZ0 0 G (pI φ)) G 0 0 270 [.null, .ref 15, .ref 16, .ref (w + 3), .int x4, .int x5, .int (x6 + (-1)), .int x7, .null] [] (wI μ 16 (Int32.toNatClampNeg (x6 + (-1))) ((μ.1 16 (Int32.toNatClampNeg (x6 + (-1)))) / (μ.1 16 (Int32.toNatClampNeg ((x6 + (-1)) + 1)))))) 
    (k10 : (¬ (x4 ≤ (x7 : Int32))) → (¬ (x6 < (2 : Int32))) → (x6 ≤ (x5 : Int32)) → (¬ ((μ.1 (w + 3) (Int32.toNatClampNeg x7)) &&& 7) = (0 : Int32)) → (¬ ((μ.1 (w + 3) (Int32.toNatClampNeg x7)) &&& 7) = (1 : Int32)) → (¬ ((μ.1 (w + 3) (Int32.toNatClampNeg x7)) &&& 7) = (2 : Int32)) → (¬ ((μ.1 (w + 3) (Int32.toNatClampNeg x7)) &&& 7) = (3 : Int32)) → (¬ ((μ.1 (w + 3) (Int32.toNatClampNeg x7)) &&& 7) = (4 : Int32)) → (((μ.1 (w + 3) (Int32.toNatClampNeg x7)) &&& 7) = (5 : Int32)) → ((μ.1 16 (Int32.toNatClampNeg x6)) = (0 : Int32)) → φ 0 μ) 
    (o13 : (¬ (x4 ≤ (x7 : Int32))) → (¬ (x6 < (2 : Int32))) → (x6 ≤ (x5 : Int32)) → (¬ ((μ.1 (w + 3) (Int32.toNatClampNeg x7)) &&& 7) = (0 : Int32)) → (¬ ((μ.1 (w + 3) (Int32.toNatClampNeg x7)) &&& 7) = (1 : Int32)) → (¬ ((μ.1 (w + 3) (Int32.toNatClampNeg x7)) &&& 7) = (2 : Int32)) → (¬ ((μ.1 (w + 3) (Int32.toNatClampNeg x7)) &&& 7) = (3 : Int32)) → (¬ ((μ.1 (w + 3) (Int32.toNatClampNeg x7)) &&& 7) = (4 : Int32)) → (¬ ((μ.1 (w + 3) (Int32.toNatClampNeg x7)) &&& 7) = (5 : Int32)) → (((μ.1 (w + 3) (Int32.toNatClampNeg x7)) &&& 7) = (6 : Int32)) → vp_in ((x6 + (-2)) + 1) 24) 
    (o14 : (¬ (x4 ≤ (x7 : Int32))) → (¬ (x6 < (2 : Int32))) → (x6 ≤ (x5 : Int32)) → (¬ ((μ.1 (w + 3) (Int32.toNatClampNeg x7)) &&& 7) = (0 : Int32)) → (¬ ((μ.1 (w + 3) (Int32.toNatClampNeg x7)) &&& 7) = (1 : Int32)) → (¬ ((μ.1 (w + 3) (Int32.toNatClampNeg x7)) &&& 7) = (2 : Int32)) → (¬ ((μ.1 (w + 3) (Int32.toNatClampNeg x7)) &&& 7) = (3 : Int32)) → (¬ ((μ.1 (w + 3) (Int32.toNatClampNeg x7)) &&& 7) = (4 : Int32)) → (¬ ((μ.1 (w + 3) (Int32.toNatClampNeg x7)) &&& 7) = (5 : Int32)) → (((μ.1 (w + 3) (Int32.toNatClampNeg x7)) &&& 7) = (6 : Int32)) → vp_in ((x6 + (-2)) + 2) 24) 
    (k11 : (¬ (x4 ≤ (x7 : Int32))) → (¬ (x6 < (2 : Int32))) → (x6 ≤ (x5 : Int32)) → (¬ ((μ.1 (w + 3) (Int32.toNatClampNeg x7)) &&& 7) = (0 : Int32)) → (¬ ((μ.1 (w + 3) (Int32.toNatClampNeg x7)) &&& 7) = (1 : Int32)) → (¬ ((μ.1 (w + 3) (Int32.toNatClampNeg x7)) &&& 7) = (2 : Int32)) → (¬ ((μ.1 (w + 3) (Int32.toNatClampNeg x7)) &&& 7) = (3 : Int32)) → (¬ ((μ.1 (w + 3) (Int32.toNatClampNeg x7)) &&& 7) = (4 : Int32)) → (¬ ((μ.1 (w + 3) (Int32.toNatClampNeg x7)) &&& 7) = (5 : Int32)) → (((μ.1 (w + 3) (Int32.toNatClampNeg x7)) &&& 7) = (6 : Int32)) → ((μ.1 16 (Int32.toNatClampNeg ((x6 + (-2)) + 1))) < ((μ.1 16 (Int32.toNatClampNeg ((x6 + (-2)) + 2))) : Int32)) → J l mX2_valueOf (jZ0 0 G (pI φ)) G 0 0 270 [.null, .ref 15, .ref 16, .ref (w + 3), .int x4, .int x5, .int (x6 + (-2)), .int x7, .null] [] μ) 
    (k12 : (¬ (x4 ≤ (x7 : Int32))) → (¬ (x6 < (2 : Int32))) → (x6 ≤ (x5 : Int32)) → (¬ ((μ.1 (w + 3) (Int32.toNatClampNeg x7)) &&& 7) = (0 : Int32)) → (¬ ((μ.1 (w + 3) (Int32.toNatClampNeg x7)) &&& 7) = (1 : Int32)) → (¬ ((μ.1 (w + 3) (Int32.toNatClampNeg x7)) &&& 7) = (2 : Int32)) → (¬ ((μ.1 (w + 3) (Int32.toNatClampNeg x7)) &&& 7) = (3 : Int32)) → (¬ ((μ.1 (w + 3) (Int32.toNatClampNeg x7)) &&& 7) = (4 : Int32)) → (¬ ((μ.1 (w + 3) (Int32.toNatClampNeg x7)) &&& 7) = (5 : Int32)) → (((μ.1 (w + 3) (Int32.toNatClampNeg x7)) &&& 7) = (6 : Int32)) → (¬ ((μ.1 16 (Int32.toNatClampNeg ((x6 + (-2)) + 1))) < ((μ.1 16 (Int32.toNatClampNeg ((x6 + (-2)) + 2))) : Int32))) → (((μ.1 (w + 3) (Int32.toNatClampNeg x7)) >>> (3 &&& 31)) ≤ (x7 : Int32)) → J l mX2_valueOf (jZ0 0 G (pI φ)) G 0 0 270 [.null, .ref 15, .ref 16, .ref (w + 3), .int x4, .int x5, .int (x6 + (-2)), .int x7, .null] [] μ) 
    (k13 : (¬ (x4 ≤ (x7 : Int32))) → (¬ (x6 < (2 : Int32))) → (x6 ≤ (x5 : Int32)) → (¬ ((μ.1 (w + 3) (Int32.toNatClampNeg x7)) &&& 7) = (0 : Int32)) → (¬ ((μ.1 (w + 3) (Int32.toNatClampNeg x7)) &&& 7) = (1 : Int32)) → (¬ ((μ.1 (w + 3) (Int32.toNatClampNeg x7)) &&& 7) = (2 : Int32)) → (¬ ((μ.1 (w + 3) (Int32.toNatClampNeg x7)) &&& 7) = (3 : Int32)) → (¬ ((μ.1 (w + 3) (Int32.toNatClampNeg x7)) &&& 7) = (4 : Int32)) → (¬ ((μ.1 (w + 3) (Int32.toNatClampNeg x7)) &&& 7) = (5 : Int32)) → (((μ.1 (w + 3) (Int32.toNatClampNeg x7)) &&& 7) = (6 : Int32)) → (¬ ((μ.1 16 (Int32.toNatClampNeg ((x6 + (-2)) + 1))) < ((μ.1 16 (Int32.toNatClampNeg ((x6 + (-2)) + 2))) : Int32))) → (¬ (((μ.1 (w + 3) (Int32.toNatClampNeg x7)) >>> (3 &&& 31)) ≤ (x7 : Int32))) → J l mX2_valueOf (jZ0 0 G (pI φ)) G 0 0 270 [.null, .ref 15, .ref 16, .ref (w + 3), .int x4, .int x5, .int (x6 + (-2)), .int (((μ.1 (w + 3) (Int32.toNatClampNeg x7)) >>> (3 &&& 31)) - 1), .null] [] μ) 
    (o15 : (¬ (x4 ≤ (x7 : Int32))) → (¬ (x6 < (2 : Int32))) → (x6 ≤ (x5 : Int32)) → (¬ ((μ.1 (w + 3) (Int32.toNatClampNeg x7)) &&& 7) = (0 : Int32)) → (¬ ((μ.1 (w + 3) (Int32.toNatClampNeg x7)) &&& 7) = (1 : Int32)) → (¬ ((μ.1 (w + 3) (Int32.toNatClampNeg x7)) &&& 7) = (2 : Int32)) → (¬ ((μ.1 (w + 3) (Int32.toNatClampNeg x7)) &&& 7) = (3 : Int32)) → (¬ ((μ.1 (w + 3) (Int32.toNatClampNeg x7)) &&& 7) = (4 : Int32)) → (¬ ((μ.1 (w + 3) (Int32.toNatClampNeg x7)) &&& 7) = (5 : Int32)) → (¬ ((μ.1 (w + 3) (Int32.toNatClampNeg x7)) &&& 7) = (6 : Int32)) → vp_in x6 24) 
    (k14 : (¬ (x4 ≤ (x7 : Int32))) → (¬ (x6 < (2 : Int32))) → (x6 ≤ (x5 : Int32)) → (¬ ((μ.1 (w + 3) (Int32.toNatClampNeg x7)) &&& 7) = (0 : Int32)) → (¬ ((μ.1 (w + 3) (Int32.toNatClampNeg x7)) &&& 7) = (1 : Int32)) → (¬ ((μ.1 (w + 3) (Int32.toNatClampNeg x7)) &&& 7) = (2 : Int32)) → (¬ ((μ.1 (w + 3) (Int32.toNatClampNeg x7)) &&& 7) = (3 : Int32)) → (¬ ((μ.1 (w + 3) (Int32.toNatClampNeg x7)) &&& 7) = (4 : Int32)) → (¬ ((μ.1 (w + 3) (Int32.toNatClampNeg x7)) &&& 7) = (5 : Int32)) → (¬ ((μ.1 (w + 3) (Int32.toNatClampNeg x7)) &&& 7) = (6 : Int32)) → φ (μ.1 16 (Int32.toNatClampNeg x6)) μ) 
    (k15 : (¬ (x4 ≤ (x7 : Int32))) → (¬ (x6 < (2 : Int32))) → (¬ (x6 ≤ (x5 : Int32))) → J l mX2_valueOf (jZ0 0 G (pI φ)) G 0 0 43 [.null, .null, .null, .null, .null, .null, .null, .null, .null] [] μ) :
    J l mX2_valueOf (jZ0 0 G (pI φ)) G 0 0 23 [.null, .ref 15, .ref 16, .ref (w + 3), .int x4, .int x5, .int x6, .int x7, .null] [] μ := by
  refine j_iload dX2_valueOf_23 rfl rfl ?_
  refine j_iload dX2_valueOf_25 rfl rfl ?_
  refine j_icmp_ge 276 dX2_valueOf_27 rfl (by decide) (fun c0 => ?_) (fun c0 => ?_)
  · skip
    refine j_iconst 0 dX2_valueOf_276 rfl (by decide) ?_
    exact j_iret dX2_valueOf_277 rfl (k0 c0)
  · skip
    refine j_iload dX2_valueOf_30 rfl rfl ?_
    refine j_iconst 2 dX2_valueOf_32 rfl (by decide) ?_
    refine j_icmp_lt 43 dX2_valueOf_33 rfl (by decide) (fun c1 => ?_) (fun c1 => ?_)
    · skip
      refine j_forget (ls' := [.null, .null, .null, .null, .null, .null, .null, .null, .null]) ⟨Or.inr rfl, Or.inl rfl, Or.inl rfl, Or.inl rfl, Or.inl rfl, Or.inl rfl, Or.inl rfl, Or.inl rfl, Or.inr rfl, trivial⟩ ?_
      exact k1 c0 c1
    · skip
      refine j_iload dX2_valueOf_36 rfl rfl ?_
      refine j_iload dX2_valueOf_38 rfl rfl ?_
      refine j_icmp_le 45 dX2_valueOf_40 rfl (by decide) (fun c2 => ?_) (fun c2 => ?_)
      · skip
        refine j_aload_n dX2_valueOf_45 rfl rfl ?_
        refine j_iload dX2_valueOf_46 rfl rfl ?_
        refine j_iald' (j := (Int32.toNatClampNeg x7)) dX2_valueOf_48 rfl (hw.1 3 (0, 400) rfl) (o0 c0 c1 c2) rfl ?_
        refine j_iconst 3 dX2_valueOf_49 rfl (by decide) ?_
        refine j_ishr dX2_valueOf_50 rfl ?_
        refine j_istore (ls' := [.null, .ref 15, .ref 16, .ref (w + 3), .int x4, .int x5, .int x6, .int x7, .int ((μ.1 (w + 3) (Int32.toNatClampNeg x7)) >>> (3 &&& 31))]) dX2_valueOf_51 rfl (Nat.le_of_ble_eq_true rfl) rfl ?_
        refine j_aload_n dX2_valueOf_53 rfl rfl ?_
        refine j_iload dX2_valueOf_54 rfl rfl ?_
        refine j_iald' (j := (Int32.toNatClampNeg x7)) dX2_valueOf_56 rfl (hw.1 3 (0, 400) rfl) (o0 c0 c1 c2) rfl ?_
        refine j_bipush 7 dX2_valueOf_57 rfl (by decide) ?_
        refine j_iand dX2_valueOf_59 rfl ?_
        by_cases c3 : ((μ.1 (w + 3) (Int32.toNatClampNeg x7)) &&& 7) = (0 : Int32)
        · skip
          refine j_tableIn (off := 44) 104 dX2_valueOf_60 (sw_1 c3 (by decide)) (sw_2 c3 (by decide)) (sw_3 c3 (by decide)) (by decide) ?_
          refine j_iinc (x6 + 1) (ls' := [.null, .ref 15, .ref 16, .ref (w + 3), .int x4, .int x5, .int (x6 + 1), .int x7, .int ((μ.1 (w + 3) (Int32.toNatClampNeg x7)) >>> (3 &&& 31))]) dX2_valueOf_104 rfl rfl rfl (Nat.le_of_ble_eq_true rfl) rfl ?_
          refine j_aload_n dX2_valueOf_107 rfl rfl ?_
          refine j_iload dX2_valueOf_108 rfl rfl ?_
          refine j_iload dX2_valueOf_110 rfl rfl ?_
          refine j_iast' (j := (Int32.toNatClampNeg (x6 + 1))) dX2_valueOf_112 rfl (hG 16 (0, 24) rfl) (o1 c0 c1 c2 c3) rfl ?_
          refine j_goto 270 dX2_valueOf_113 (by decide) ?_
          refine j_forget (ls' := [.null, .ref 15, .ref 16, .ref (w + 3), .int x4, .int x5, .int (x6 + 1), .int x7, .null]) ⟨Or.inr rfl, Or.inr rfl, Or.inr rfl, Or.inr rfl, Or.inr rfl, Or.inr rfl, Or.inr rfl, Or.inr rfl, Or.inl rfl, trivial⟩ ?_
          exact k2 c0 c1 c2 c3
        by_cases c4 : ((μ.1 (w + 3) (Int32.toNatClampNeg x7)) &&& 7) = (1 : Int32)
        · skip
          refine j_tableIn (off := 56) 116 dX2_valueOf_60 (sw_1 c4 (by decide)) (sw_2 c4 (by decide)) (sw_3 c4 (by decide)) (by decide) ?_
          refine j_iinc (x6 + 1) (ls' := [.null, .ref 15, .ref 16, .ref (w + 3), .int x4, .int x5, .int (x6 + 1), .int x7, .int ((μ.1 (w + 3) (Int32.toNatClampNeg x7)) >>> (3 &&& 31))]) dX2_valueOf_116 rfl rfl rfl (Nat.le_of_ble_eq_true rfl) rfl ?_
          refine j_aload_n dX2_valueOf_119 rfl rfl ?_
          refine j_iload dX2_valueOf_120 rfl rfl ?_
          refine j_iload dX2_valueOf_122 rfl rfl ?_
          refine j_if_lt 141 dX2_valueOf_124 rfl (by decide) (fun c5 => ?_) (fun c5 => ?_)
          · skip
            refine j_forget (ls' := [.null, .ref 15, .ref 16, .ref (w + 3), .int x4, .int x5, .int (x6 + 1), .int x7, .null]) ⟨Or.inr rfl, Or.inr rfl, Or.inr rfl, Or.inr rfl, Or.inr rfl, Or.inr rfl, Or.inr rfl, Or.inr rfl, Or.inl rfl, trivial⟩ ?_
            exact k3 c0 c1 c2 c3 c4 c5
          · skip
            refine j_iload dX2_valueOf_127 rfl rfl ?_
            refine j_aload_n dX2_valueOf_129 rfl rfl ?_
            refine j_alen 9 dX2_valueOf_130 rfl (hG 15 (0, 9) rfl) (by decide) (by decide) ?_
            refine j_icmp_ge 141 dX2_valueOf_131 rfl (by decide) (fun c6 => ?_) (fun c6 => ?_)
            · skip
              refine j_forget (ls' := [.null, .ref 15, .ref 16, .ref (w + 3), .int x4, .int x5, .int (x6 + 1), .int x7, .null]) ⟨Or.inr rfl, Or.inr rfl, Or.inr rfl, Or.inr rfl, Or.inr rfl, Or.inr rfl, Or.inr rfl, Or.inr rfl, Or.inl rfl, trivial⟩ ?_
              exact k4 c0 c1 c2 c3 c4 c5 c6
            · skip
              refine j_aload_n dX2_valueOf_134 rfl rfl ?_
              refine j_iload dX2_valueOf_135 rfl rfl ?_
              refine j_iald' (j := (Int32.toNatClampNeg ((μ.1 (w + 3) (Int32.toNatClampNeg x7)) >>> (3 &&& 31)))) dX2_valueOf_137 rfl (hG 15 (0, 9) rfl) (o2 c0 c1 c2 c3 c4 c5 c6) rfl ?_
              refine j_goto 142 dX2_valueOf_138 (by decide) ?_
              refine j_forget (ls' := [.null, .ref 15, .ref 16, .ref (w + 3), .int x4, .int x5, .int (x6 + 1), .int x7, .null]) ⟨Or.inr rfl, Or.inr rfl, Or.inr rfl, Or.inr rfl, Or.inr rfl, Or.inr rfl, Or.inr rfl, Or.inr rfl, Or.inl rfl, trivial⟩ ?_
              exact k5 c0 c1 c2 c3 c4 c5 c6
        by_cases c7 : ((μ.1 (w + 3) (Int32.toNatClampNeg x7)) &&& 7) = (2 : Int32)
        · skip
          refine j_tableIn (off := 86) 146 dX2_valueOf_60 (sw_1 c7 (by decide)) (sw_2 c7 (by decide)) (sw_3 c7 (by decide)) (by decide) ?_
          refine j_iinc (x6 + (-1)) (ls' := [.null, .ref 15, .ref 16, .ref (w + 3), .int x4, .int x5, .int (x6 + (-1)), .int x7, .int ((μ.1 (w + 3) (Int32.toNatClampNeg x7)) >>> (3 &&& 31))]) dX2_valueOf_146 rfl rfl rfl (Nat.le_of_ble_eq_true rfl) rfl ?_
          refine j_aload_n dX2_valueOf_149 rfl rfl ?_
          refine j_iload dX2_valueOf_150 rfl rfl ?_
          refine j_dup2 dX2_valueOf_152 rfl (fun _ _ => rfl) (fun _ _ => rfl) ?_
          refine j_iald' (j := (Int32.toNatClampNeg (x6 + (-1)))) dX2_valueOf_153 rfl (hG 16 (0, 24) rfl) (o3 c0 c1 c2 c3 c4 c7) rfl ?_
          refine j_aload_n dX2_valueOf_154 rfl rfl ?_
          refine j_iload dX2_valueOf_155 rfl rfl ?_
          refine j_iconst 1 dX2_valueOf_157 rfl (by decide) ?_
          refine j_iadd dX2_valueOf_158 rfl ?_
          refine j_iald' (j := (Int32.toNatClampNeg ((x6 + (-1)) + 1))) dX2_valueOf_159 rfl (hG 16 (0, 24) rfl) (o4 c0 c1 c2 c3 c4 c7) rfl ?_
          refine j_iadd dX2_valueOf_160 rfl ?_
          refine j_iast' (j := (Int32.toNatClampNeg (x6 + (-1)))) dX2_valueOf_161 rfl (hG 16 (0, 24) rfl) (o3 c0 c1 c2 c3 c4 c7) rfl ?_
          refine j_goto 270 dX2_valueOf_162 (by decide) ?_
          refine j_forget (ls' := [.null, .ref 15, .ref 16, .ref (w + 3), .int x4, .int x5, .int (x6 + (-1)), .int x7, .null]) ⟨Or.inr rfl, Or.inr rfl, Or.inr rfl, Or.inr rfl, Or.inr rfl, Or.inr rfl, Or.inr rfl, Or.inr rfl, Or.inl rfl, trivial⟩ ?_
          exact k6 c0 c1 c2 c3 c4 c7
        by_cases c8 : ((μ.1 (w + 3) (Int32.toNatClampNeg x7)) &&& 7) = (3 : Int32)
        · skip
          refine j_tableIn (off := 105) 165 dX2_valueOf_60 (sw_1 c8 (by decide)) (sw_2 c8 (by decide)) (sw_3 c8 (by decide)) (by decide) ?_
          refine j_iinc (x6 + (-1)) (ls' := [.null, .ref 15, .ref 16, .ref (w + 3), .int x4, .int x5, .int (x6 + (-1)), .int x7, .int ((μ.1 (w + 3) (Int32.toNatClampNeg x7)) >>> (3 &&& 31))]) dX2_valueOf_165 rfl rfl rfl (Nat.le_of_ble_eq_true rfl) rfl ?_
          refine j_aload_n dX2_valueOf_168 rfl rfl ?_
          refine j_iload dX2_valueOf_169 rfl rfl ?_
          refine j_dup2 dX2_valueOf_171 rfl (fun _ _ => rfl) (fun _ _ => rfl) ?_
          refine j_iald' (j := (Int32.toNatClampNeg (x6 + (-1)))) dX2_valueOf_172 rfl (hG 16 (0, 24) rfl) (o5 c0 c1 c2 c3 c4 c7 c8) rfl ?_
          refine j_aload_n dX2_valueOf_173 rfl rfl ?_
          refine j_iload dX2_valueOf_174 rfl rfl ?_
          refine j_iconst 1 dX2_valueOf_176 rfl (by decide) ?_
          refine j_iadd dX2_valueOf_177 rfl ?_
          refine j_iald' (j := (Int32.toNatClampNeg ((x6 + (-1)) + 1))) dX2_valueOf_178 rfl (hG 16 (0, 24) rfl) (o6 c0 c1 c2 c3 c4 c7 c8) rfl ?_
          refine j_isub dX2_valueOf_179 rfl ?_
          refine j_iast' (j := (Int32.toNatClampNeg (x6 + (-1)))) dX2_valueOf_180 rfl (hG 16 (0, 24) rfl) (o5 c0 c1 c2 c3 c4 c7 c8) rfl ?_
          refine j_goto 270 dX2_valueOf_181 (by decide) ?_
          refine j_forget (ls' := [.null, .ref 15, .ref 16, .ref (w + 3), .int x4, .int x5, .int (x6 + (-1)), .int x7, .null]) ⟨Or.inr rfl, Or.inr rfl, Or.inr rfl, Or.inr rfl, Or.inr rfl, Or.inr rfl, Or.inr rfl, Or.inr rfl, Or.inl rfl, trivial⟩ ?_
          exact k7 c0 c1 c2 c3 c4 c7 c8
        by_cases c9 : ((μ.1 (w + 3) (Int32.toNatClampNeg x7)) &&& 7) = (4 : Int32)
        · skip
          refine j_tableIn (off := 124) 184 dX2_valueOf_60 (sw_1 c9 (by decide)) (sw_2 c9 (by decide)) (sw_3 c9 (by decide)) (by decide) ?_
          refine j_iinc (x6 + (-1)) (ls' := [.null, .ref 15, .ref 16, .ref (w + 3), .int x4, .int x5, .int (x6 + (-1)), .int x7, .int ((μ.1 (w + 3) (Int32.toNatClampNeg x7)) >>> (3 &&& 31))]) dX2_valueOf_184 rfl rfl rfl (Nat.le_of_ble_eq_true rfl) rfl ?_
          refine j_aload_n dX2_valueOf_187 rfl rfl ?_
          refine j_iload dX2_valueOf_188 rfl rfl ?_
          refine j_dup2 dX2_valueOf_190 rfl (fun _ _ => rfl) (fun _ _ => rfl) ?_
          refine j_iald' (j := (Int32.toNatClampNeg (x6 + (-1)))) dX2_valueOf_191 rfl (hG 16 (0, 24) rfl) (o7 c0 c1 c2 c3 c4 c7 c8 c9) rfl ?_
          refine j_aload_n dX2_valueOf_192 rfl rfl ?_
          refine j_iload dX2_valueOf_193 rfl rfl ?_
          refine j_iconst 1 dX2_valueOf_195 rfl (by decide) ?_
          refine j_iadd dX2_valueOf_196 rfl ?_
          refine j_iald' (j := (Int32.toNatClampNeg ((x6 + (-1)) + 1))) dX2_valueOf_197 rfl (hG 16 (0, 24) rfl) (o8 c0 c1 c2 c3 c4 c7 c8 c9) rfl ?_
          refine j_imul dX2_valueOf_198 rfl ?_
          refine j_iast' (j := (Int32.toNatClampNeg (x6 + (-1)))) dX2_valueOf_199 rfl (hG 16 (0, 24) rfl) (o7 c0 c1 c2 c3 c4 c7 c8 c9) rfl ?_
          refine j_goto 270 dX2_valueOf_200 (by decide) ?_
          refine j_forget (ls' := [.null, .ref 15, .ref 16, .ref (w + 3), .int x4, .int x5, .int (x6 + (-1)), .int x7, .null]) ⟨Or.inr rfl, Or.inr rfl, Or.inr rfl, Or.inr rfl, Or.inr rfl, Or.inr rfl, Or.inr rfl, Or.inr rfl, Or.inl rfl, trivial⟩ ?_
          exact k8 c0 c1 c2 c3 c4 c7 c8 c9
        by_cases c10 : ((μ.1 (w + 3) (Int32.toNatClampNeg x7)) &&& 7) = (5 : Int32)
        · skip
          refine j_tableIn (off := 143) 203 dX2_valueOf_60 (sw_1 c10 (by decide)) (sw_2 c10 (by decide)) (sw_3 c10 (by decide)) (by decide) ?_
          refine j_aload_n dX2_valueOf_203 rfl rfl ?_
          refine j_iload dX2_valueOf_204 rfl rfl ?_
          refine j_iald' (j := (Int32.toNatClampNeg x6)) dX2_valueOf_206 rfl (hG 16 (0, 24) rfl) (o9 c0 c1 c2 c3 c4 c7 c8 c9 c10) rfl ?_
          refine j_if_ne 212 dX2_valueOf_207 rfl (by decide) (fun c11 => ?_) (fun c11 => ?_)
          · skip
            refine j_iinc (x6 + (-1)) (ls' := [.null, .ref 15, .ref 16, .ref (w + 3), .int x4, .int x5, .int (x6 + (-1)), .int x7, .int ((μ.1 (w + 3) (Int32.toNatClampNeg x7)) >>> (3 &&& 31))]) dX2_valueOf_212 rfl rfl rfl (Nat.le_of_ble_eq_true rfl) rfl ?_
            refine j_aload_n dX2_valueOf_215 rfl rfl ?_
            refine j_iload dX2_valueOf_216 rfl rfl ?_
            refine j_dup2 dX2_valueOf_218 rfl (fun _ _ => rfl) (fun _ _ => rfl) ?_
            refine j_iald' (j := (Int32.toNatClampNeg (x6 + (-1)))) dX2_valueOf_219 rfl (hG 16 (0, 24) rfl) (o10 c0 c1 c2 c3 c4 c7 c8 c9 c10 c11) rfl ?_
            refine j_aload_n dX2_valueOf_220 rfl rfl ?_
            refine j_iload dX2_valueOf_221 rfl rfl ?_
            refine j_iconst 1 dX2_valueOf_223 rfl (by decide) ?_
            refine j_iadd dX2_valueOf_224 rfl ?_
            refine j_iald' (j := (Int32.toNatClampNeg ((x6 + (-1)) + 1))) dX2_valueOf_225 rfl (hG 16 (0, 24) rfl) (o11 c0 c1 c2 c3 c4 c7 c8 c9 c10 c11) rfl ?_
            refine j_idiv dX2_valueOf_226 rfl (o12 c0 c1 c2 c3 c4 c7 c8 c9 c10 c11) ?_
            refine j_iast' (j := (Int32.toNatClampNeg (x6 + (-1)))) dX2_valueOf_227 rfl (hG 16 (0, 24) rfl) (o10 c0 c1 c2 c3 c4 c7 c8 c9 c10 c11) rfl ?_
            refine j_goto 270 dX2_valueOf_228 (by decide) ?_
            refine j_forget (ls' := [.null, .ref 15, .ref 16, .ref (w + 3), .int x4, .int x5, .int (x6 + (-1)), .int x7, .null]) ⟨Or.inr rfl, Or.inr rfl, Or.inr rfl, Or.inr rfl, Or.inr rfl, Or.inr rfl, Or.inr rfl, Or.inr rfl, Or.inl rfl, trivial⟩ ?_
            exact k9 c0 c1 c2 c3 c4 c7 c8 c9 c10 c11
          · skip
            refine j_iconst 0 dX2_valueOf_210 rfl (by decide) ?_
            exact j_iret dX2_valueOf_211 rfl (k10 c0 c1 c2 c3 c4 c7 c8 c9 c10 c11)
        by_cases c12 : ((μ.1 (w + 3) (Int32.toNatClampNeg x7)) &&& 7) = (6 : Int32)
        · skip
          refine j_tableIn (off := 171) 231 dX2_valueOf_60 (sw_1 c12 (by decide)) (sw_2 c12 (by decide)) (sw_3 c12 (by decide)) (by decide) ?_
          refine j_iinc (x6 + (-2)) (ls' := [.null, .ref 15, .ref 16, .ref (w + 3), .int x4, .int x5, .int (x6 + (-2)), .int x7, .int ((μ.1 (w + 3) (Int32.toNatClampNeg x7)) >>> (3 &&& 31))]) dX2_valueOf_231 rfl rfl rfl (Nat.le_of_ble_eq_true rfl) rfl ?_
          refine j_aload_n dX2_valueOf_234 rfl rfl ?_
          refine j_iload dX2_valueOf_235 rfl rfl ?_
          refine j_iconst 1 dX2_valueOf_237 rfl (by decide) ?_
          refine j_iadd dX2_valueOf_238 rfl ?_
          refine j_iald' (j := (Int32.toNatClampNeg ((x6 + (-2)) + 1))) dX2_valueOf_239 rfl (hG 16 (0, 24) rfl) (o13 c0 c1 c2 c3 c4 c7 c8 c9 c10 c12) rfl ?_
          refine j_aload_n dX2_valueOf_240 rfl rfl ?_
          refine j_iload dX2_valueOf_241 rfl rfl ?_
          refine j_iconst 2 dX2_valueOf_243 rfl (by decide) ?_
          refine j_iadd dX2_valueOf_244 rfl ?_
          refine j_iald' (j := (Int32.toNatClampNeg ((x6 + (-2)) + 2))) dX2_valueOf_245 rfl (hG 16 (0, 24) rfl) (o14 c0 c1 c2 c3 c4 c7 c8 c9 c10 c12) rfl ?_
          refine j_icmp_lt 270 dX2_valueOf_246 rfl (by decide) (fun c13 => ?_) (fun c13 => ?_)
          · skip
            refine j_forget (ls' := [.null, .ref 15, .ref 16, .ref (w + 3), .int x4, .int x5, .int (x6 + (-2)), .int x7, .null]) ⟨Or.inr rfl, Or.inr rfl, Or.inr rfl, Or.inr rfl, Or.inr rfl, Or.inr rfl, Or.inr rfl, Or.inr rfl, Or.inl rfl, trivial⟩ ?_
            exact k11 c0 c1 c2 c3 c4 c7 c8 c9 c10 c12 c13
          · skip
            refine j_iload dX2_valueOf_249 rfl rfl ?_
            refine j_iload dX2_valueOf_251 rfl rfl ?_
            refine j_icmp_le 270 dX2_valueOf_253 rfl (by decide) (fun c14 => ?_) (fun c14 => ?_)
            · skip
              refine j_forget (ls' := [.null, .ref 15, .ref 16, .ref (w + 3), .int x4, .int x5, .int (x6 + (-2)), .int x7, .null]) ⟨Or.inr rfl, Or.inr rfl, Or.inr rfl, Or.inr rfl, Or.inr rfl, Or.inr rfl, Or.inr rfl, Or.inr rfl, Or.inl rfl, trivial⟩ ?_
              exact k12 c0 c1 c2 c3 c4 c7 c8 c9 c10 c12 c13 c14
            · skip
              refine j_iload dX2_valueOf_256 rfl rfl ?_
              refine j_iconst 1 dX2_valueOf_258 rfl (by decide) ?_
              refine j_isub dX2_valueOf_259 rfl ?_
              refine j_istore (ls' := [.null, .ref 15, .ref 16, .ref (w + 3), .int x4, .int x5, .int (x6 + (-2)), .int (((μ.1 (w + 3) (Int32.toNatClampNeg x7)) >>> (3 &&& 31)) - 1), .int ((μ.1 (w + 3) (Int32.toNatClampNeg x7)) >>> (3 &&& 31))]) dX2_valueOf_260 rfl (Nat.le_of_ble_eq_true rfl) rfl ?_
              refine j_goto 270 dX2_valueOf_262 (by decide) ?_
              refine j_forget (ls' := [.null, .ref 15, .ref 16, .ref (w + 3), .int x4, .int x5, .int (x6 + (-2)), .int (((μ.1 (w + 3) (Int32.toNatClampNeg x7)) >>> (3 &&& 31)) - 1), .null]) ⟨Or.inr rfl, Or.inr rfl, Or.inr rfl, Or.inr rfl, Or.inr rfl, Or.inr rfl, Or.inr rfl, Or.inr rfl, Or.inl rfl, trivial⟩ ?_
              exact k13 c0 c1 c2 c3 c4 c7 c8 c9 c10 c12 c13 c14
        refine j_tableOut 265 dX2_valueOf_60 (sw_o [0, 1, 2, 3, 4, 5, 6] (by decide) ⟨c3, c4, c7, c8, c9, c10, c12, trivial⟩) (by decide) ?_
        refine j_aload_n dX2_valueOf_265 rfl rfl ?_
        refine j_iload dX2_valueOf_266 rfl rfl ?_
        refine j_iald' (j := (Int32.toNatClampNeg x6)) dX2_valueOf_268 rfl (hG 16 (0, 24) rfl) (o15 c0 c1 c2 c3 c4 c7 c8 c9 c10 c12) rfl ?_
        exact j_iret dX2_valueOf_269 rfl (k14 c0 c1 c2 c3 c4 c7 c8 c9 c10 c12)
      · skip
        refine j_forget (ls' := [.null, .null, .null, .null, .null, .null, .null, .null, .null]) ⟨Or.inr rfl, Or.inl rfl, Or.inl rfl, Or.inl rfl, Or.inl rfl, Or.inl rfl, Or.inl rfl, Or.inl rfl, Or.inr rfl, trivial⟩ ?_
        exact k15 c0 c1 c2
theorem b_X2_valueOf_43 {l : Launch} {G : jG} {μ : jM} {φ : Int32 → jM → Prop} (hG : gGG G) (hP : gPP μ) 
    (k0 : φ 0 μ) :
    J l mX2_valueOf (jZ0 0 G (pI φ)) G 0 0 43 [.null, .null, .null, .null, .null, .null, .null, .null, .null] [] μ := by
  refine j_iconst 0 dX2_valueOf_43 rfl (by decide) ?_
  exact j_iret dX2_valueOf_44 rfl (k0 )
theorem b_X2_valueOf_141 {l : Launch} {G : jG} {μ : jM} {φ : Int32 → jM → Prop} {x4 x5 x6 x7 z0 : Int32} {w : Nat} (hG : gGG G) (hP : gPP μ) (hw : tO gLaw pLaw G μ w) 
    (k0 : J l mX2_valueOf (jZ0 0 G (pI φ)) G 0 0 142 [.null, .ref 15, .ref 16, .ref (w + 3), .int x4, .int x5, .int x6, .int x7, .null] [.int 0, .int z0, .ref 16] μ) :
    J l mX2_valueOf (jZ0 0 G (pI φ)) G 0 0 141 [.null, .ref 15, .ref 16, .ref (w + 3), .int x4, .int x5, .int x6, .int x7, .null] [.int z0, .ref 16] μ := by
  refine j_iconst 0 dX2_valueOf_141 rfl (by decide) ?_
  exact k0 
theorem b_X2_valueOf_142 {l : Launch} {G : jG} {μ : jM} {φ : Int32 → jM → Prop} {x4 x5 x6 x7 z0 z1 : Int32} {w : Nat} (hG : gGG G) (hP : gPP μ) (hw : tO gLaw pLaw G μ w) 
    (o0 : vp_in z1 24) 
    (k0 : J l mX2_valueOf (jZ0 0 G (pI φ)) G 0 0 270 [.null, .ref 15, .ref 16, .ref (w + 3), .int x4, .int x5, .int x6, .int x7, .null] [] (wI μ 16 (Int32.toNatClampNeg z1) z0)) :
    J l mX2_valueOf (jZ0 0 G (pI φ)) G 0 0 142 [.null, .ref 15, .ref 16, .ref (w + 3), .int x4, .int x5, .int x6, .int x7, .null] [.int z0, .int z1, .ref 16] μ := by
  refine j_iast' (j := (Int32.toNatClampNeg z1)) dX2_valueOf_142 rfl (hG 16 (0, 24) rfl) o0 rfl ?_
  refine j_goto 270 dX2_valueOf_143 (by decide) ?_
  exact k0 
theorem b_X2_valueOf_270 {l : Launch} {G : jG} {μ : jM} {φ : Int32 → jM → Prop} {x4 x5 x6 x7 : Int32} {w : Nat} (hG : gGG G) (hP : gPP μ) (hw : tO gLaw pLaw G μ w) 
    (k0 : J l mX2_valueOf (jZ0 0 G (pI φ)) G 0 0 23 [.null, .ref 15, .ref 16, .ref (w + 3), .int x4, .int x5, .int x6, .int (x7 + 1), .null] [] μ) :
    J l mX2_valueOf (jZ0 0 G (pI φ)) G 0 0 270 [.null, .ref 15, .ref 16, .ref (w + 3), .int x4, .int x5, .int x6, .int x7, .null] [] μ := by
  refine j_iinc (x7 + 1) (ls' := [.null, .ref 15, .ref 16, .ref (w + 3), .int x4, .int x5, .int x6, .int (x7 + 1), .null]) dX2_valueOf_270 rfl rfl rfl (Nat.le_of_ble_eq_true rfl) rfl ?_
  refine j_goto 23 dX2_valueOf_273 (by decide) ?_
  exact k0 
theorem b_X2_maskOf_0 {l : Launch} {G : jG} {μ : jM} {φ : Int64 → jM → Prop} {x0 : Int32} (hG : gGG G) (hP : gPP μ) 
    (k0 : (x0 = (3 : Int32)) → φ 268435456 μ) 
    (k1 : (¬ x0 = (3 : Int32)) → (x0 = (4 : Int32)) → φ 251658240 μ) 
    (k2 : (¬ x0 = (3 : Int32)) → (¬ x0 = (4 : Int32)) → (x0 = (5 : Int32)) → φ 0 μ) 
    (k3 : (¬ x0 = (3 : Int32)) → (¬ x0 = (4 : Int32)) → (¬ x0 = (5 : Int32)) → (x0 = (6 : Int32)) → φ 16777215 μ) 
    (k4 : (¬ x0 = (3 : Int32)) → (¬ x0 = (4 : Int32)) → (¬ x0 = (5 : Int32)) → (¬ x0 = (6 : Int32)) → (x0 = (7 : Int32)) → φ 0 μ) 
    (k5 : (¬ x0 = (3 : Int32)) → (¬ x0 = (4 : Int32)) → (¬ x0 = (5 : Int32)) → (¬ x0 = (6 : Int32)) → (¬ x0 = (7 : Int32)) → (x0 = (8 : Int32)) → φ (-4294967296) μ) 
    (k6 : (¬ x0 = (3 : Int32)) → (¬ x0 = (4 : Int32)) → (¬ x0 = (5 : Int32)) → (¬ x0 = (6 : Int32)) → (¬ x0 = (7 : Int32)) → (¬ x0 = (8 : Int32)) → φ 0 μ) :
    J l mX2_maskOf (jZ0 0 G (pJ φ)) G 0 0 0 [.int x0] [] μ := by
  refine j_iload_n dX2_maskOf_0 rfl rfl ?_
  by_cases c0 : x0 = (3 : Int32)
  · skip
    refine j_tableIn (off := 39) 40 dX2_maskOf_1 (sw_1 c0 (by decide)) (sw_2 c0 (by decide)) (sw_3 c0 (by decide)) (by decide) ?_
    refine j_ldc2 268435456 dX2_maskOf_40 rfl ck_X2_49 ?_
    exact j_lret dX2_maskOf_43 rfl (k0 c0)
  by_cases c1 : x0 = (4 : Int32)
  · skip
    refine j_tableIn (off := 43) 44 dX2_maskOf_1 (sw_1 c1 (by decide)) (sw_2 c1 (by decide)) (sw_3 c1 (by decide)) (by decide) ?_
    refine j_ldc2 251658240 dX2_maskOf_44 rfl ck_X2_51 ?_
    exact j_lret dX2_maskOf_47 rfl (k1 c0 c1)
  by_cases c2 : x0 = (5 : Int32)
  · skip
    refine j_tableIn (off := 55) 56 dX2_maskOf_1 (sw_1 c2 (by decide)) (sw_2 c2 (by decide)) (sw_3 c2 (by decide)) (by decide) ?_
    refine j_lconst 0 dX2_maskOf_56 rfl (by decide) ?_
    exact j_lret dX2_maskOf_57 rfl (k2 c0 c1 c2)
  by_cases c3 : x0 = (6 : Int32)
  · skip
    refine j_tableIn (off := 47) 48 dX2_maskOf_1 (sw_1 c3 (by decide)) (sw_2 c3 (by decide)) (sw_3 c3 (by decide)) (by decide) ?_
    refine j_ldc2 16777215 dX2_maskOf_48 rfl ck_X2_53 ?_
    exact j_lret dX2_maskOf_51 rfl (k3 c0 c1 c2 c3)
  by_cases c4 : x0 = (7 : Int32)
  · skip
    refine j_tableIn (off := 55) 56 dX2_maskOf_1 (sw_1 c4 (by decide)) (sw_2 c4 (by decide)) (sw_3 c4 (by decide)) (by decide) ?_
    refine j_lconst 0 dX2_maskOf_56 rfl (by decide) ?_
    exact j_lret dX2_maskOf_57 rfl (k4 c0 c1 c2 c3 c4)
  by_cases c5 : x0 = (8 : Int32)
  · skip
    refine j_tableIn (off := 51) 52 dX2_maskOf_1 (sw_1 c5 (by decide)) (sw_2 c5 (by decide)) (sw_3 c5 (by decide)) (by decide) ?_
    refine j_ldc2 (-4294967296) dX2_maskOf_52 rfl ck_X2_55 ?_
    exact j_lret dX2_maskOf_55 rfl (k5 c0 c1 c2 c3 c4 c5)
  refine j_tableOut 56 dX2_maskOf_1 (sw_o [3, 4, 5, 6, 7, 8] (by decide) ⟨c0, c1, c2, c3, c4, c5, trivial⟩) (by decide) ?_
  refine j_lconst 0 dX2_maskOf_56 rfl (by decide) ?_
  exact j_lret dX2_maskOf_57 rfl (k6 c0 c1 c2 c3 c4 c5)
theorem b_X3_clear_0 {l : Launch} {G : jG} {μ : jM} {φ : jM → Prop} (hG : gGG G) (hP : gPP μ) 
    (k0 : φ (wI (wI μ 54 0 0) 54 1 0)) :
    J l mX3_clear (jZ0 0 G (pV φ)) G 0 0 0 [.ref 54] [] μ := by
  refine j_aload_n dX3_clear_0 rfl rfl ?_
  refine j_iconst 0 dX3_clear_1 rfl (by decide) ?_
  refine j_putI (ci := 3) (N := 5) (f := 0) (T := TX3) dX3_clear_2 rfl (hG 54 (8, 5) rfl) rfl (by decide) fl_X3_18 rfl rfl ?_
  refine j_aload_n dX3_clear_5 rfl rfl ?_
  refine j_iconst 0 dX3_clear_6 rfl (by decide) ?_
  refine j_putI (ci := 3) (N := 5) (f := 1) (T := TX3) dX3_clear_7 rfl (hG 54 (8, 5) rfl) rfl (by decide) fl_X3_22 rfl rfl ?_
  exact j_vret dX3_clear_10 rfl (k0 )
theorem b_X3_keep_0 {l : Launch} {G : jG} {μ : jM} {φ : jM → Prop} (hG : gGG G) (hP : gPP μ) 
    (o0 : ¬ ((μ.1 54 4) * 71) < (0 : Int32)) 
    (o1 : (Int32.toNatClampNeg ((μ.1 54 4) * 71)) + (Int32.toNatClampNeg 71) ≤ 2840) 
    (k0 : φ (wI (wI (sI μ 55 (va_cpy (μ.1 53) (μ.1 55) (Int32.toNatClampNeg 0) (Int32.toNatClampNeg ((μ.1 54 4) * 71)) (Int32.toNatClampNeg 71))) 54 4 (((μ.1 54 4) + 1) - ((μ.1 54 4) + 1) / 40 * 40)) 54 0 (if 40 < ((μ.1 54 0) + 1) then 40 else ((μ.1 54 0) + 1)))) :
    J l mX3_keep (jZ0 1 G (pV φ)) G 0 0 0 [.ref 54, .ref 52] [] μ := by
  refine j_aload_n dX3_keep_0 rfl rfl ?_
  refine j_getR (ci := 5) (N := 1) (f := 0) (T := TX5) 53 dX3_keep_1 rfl (hG 52 (10, 1) rfl) rfl (by decide) fl_X3_25 rfl (hP 52 0 53 rfl) ?_
  refine j_iconst 0 dX3_keep_4 rfl (by decide) ?_
  refine j_aload_n dX3_keep_5 rfl rfl ?_
  refine j_getR (ci := 3) (N := 5) (f := 2) (T := TX3) 55 dX3_keep_6 rfl (hG 54 (8, 5) rfl) rfl (by decide) fl_X3_11 rfl (hP 54 2 55 rfl) ?_
  refine j_aload_n dX3_keep_9 rfl rfl ?_
  refine j_getI (ci := 3) (N := 5) (f := 4) (T := TX3) dX3_keep_10 rfl (hG 54 (8, 5) rfl) rfl (by decide) fl_X3_28 rfl ?_
  refine j_bipush 71 dX3_keep_13 rfl (by decide) ?_
  refine j_imul dX3_keep_15 rfl ?_
  refine j_bipush 71 dX3_keep_16 rfl (by decide) ?_
  refine j_copy dX3_keep_18 rfl vw_X3_31 (hG 53 (0, 71) rfl) (hG 55 (0, 2840) rfl) (by decide) o0 (by decide) (by decide) o1 ⟨Nat.le_of_ble_eq_true rfl, fun _ _ => Nat.le_of_ble_eq_true rfl⟩ ?_
  refine j_aload_n dX3_keep_21 rfl rfl ?_
  refine j_aload_n dX3_keep_22 rfl rfl ?_
  refine j_getI (ci := 3) (N := 5) (f := 4) (T := TX3) dX3_keep_23 rfl (hG 54 (8, 5) rfl) rfl (by decide) fl_X3_28 rfl ?_
  refine j_iconst 1 dX3_keep_26 rfl (by decide) ?_
  refine j_iadd dX3_keep_27 rfl ?_
  refine j_bipush 40 dX3_keep_28 rfl (by decide) ?_
  refine j_irem dX3_keep_30 rfl (by decide) ?_
  refine j_putI (ci := 3) (N := 5) (f := 4) (T := TX3) dX3_keep_31 rfl (hG 54 (8, 5) rfl) rfl (by decide) fl_X3_28 rfl rfl ?_
  refine j_aload_n dX3_keep_34 rfl rfl ?_
  refine j_aload_n dX3_keep_35 rfl rfl ?_
  refine j_getI (ci := 3) (N := 5) (f := 0) (T := TX3) dX3_keep_36 rfl (hG 54 (8, 5) rfl) rfl (by decide) fl_X3_18 rfl ?_
  refine j_iconst 1 dX3_keep_39 rfl (by decide) ?_
  refine j_iadd dX3_keep_40 rfl ?_
  refine j_bipush 40 dX3_keep_41 rfl (by decide) ?_
  refine j_min dX3_keep_43 rfl vw_X3_37 ⟨Nat.le_of_ble_eq_true rfl, fun _ _ => Nat.le_of_ble_eq_true rfl⟩ ?_
  refine j_putI (ci := 3) (N := 5) (f := 0) (T := TX3) dX3_keep_46 rfl (hG 54 (8, 5) rfl) rfl (by decide) fl_X3_18 rfl rfl ?_
  exact j_vret dX3_keep_49 rfl (k0 )
theorem b_X3_takeBack_0 {l : Launch} {G : jG} {μ : jM} {φ : Int32 → jM → Prop} (hG : gGG G) (hP : gPP μ) 
    (o0 : (¬ (μ.1 54 0) = (0 : Int32)) → ¬ (((((μ.1 54 4) + 40) - 1) - (((μ.1 54 4) + 40) - 1) / 40 * 40) * 71) < (0 : Int32)) 
    (o1 : (¬ (μ.1 54 0) = (0 : Int32)) → (Int32.toNatClampNeg (((((μ.1 54 4) + 40) - 1) - (((μ.1 54 4) + 40) - 1) / 40 * 40) * 71)) + (Int32.toNatClampNeg 71) ≤ 2840) 
    (k0 : (¬ (μ.1 54 0) = (0 : Int32)) → φ 1 (sI (wI (wI μ 54 0 ((μ.1 54 0) - 1)) 54 4 ((((μ.1 54 4) + 40) - 1) - (((μ.1 54 4) + 40) - 1) / 40 * 40)) 53 (va_cpy ((wI (wI μ 54 0 ((μ.1 54 0) - 1)) 54 4 ((((μ.1 54 4) + 40) - 1) - (((μ.1 54 4) + 40) - 1) / 40 * 40)).1 55) ((wI (wI μ 54 0 ((μ.1 54 0) - 1)) 54 4 ((((μ.1 54 4) + 40) - 1) - (((μ.1 54 4) + 40) - 1) / 40 * 40)).1 53) (Int32.toNatClampNeg (((((μ.1 54 4) + 40) - 1) - (((μ.1 54 4) + 40) - 1) / 40 * 40) * 71)) (Int32.toNatClampNeg 0) (Int32.toNatClampNeg 71)))) 
    (k1 : ((μ.1 54 0) = (0 : Int32)) → φ 0 μ) :
    J l mX3_takeBack (jZ0 1 G (pI φ)) G 0 0 0 [.ref 54, .ref 52] [] μ := by
  refine j_aload_n dX3_takeBack_0 rfl rfl ?_
  refine j_getI (ci := 3) (N := 5) (f := 0) (T := TX3) dX3_takeBack_1 rfl (hG 54 (8, 5) rfl) rfl (by decide) fl_X3_18 rfl ?_
  refine j_if_ne 9 dX3_takeBack_4 rfl (by decide) (fun c0 => ?_) (fun c0 => ?_)
  · skip
    refine j_aload_n dX3_takeBack_9 rfl rfl ?_
    refine j_dup dX3_takeBack_10 rfl (fun _ _ => rfl) ?_
    refine j_getI (ci := 3) (N := 5) (f := 0) (T := TX3) dX3_takeBack_11 rfl (hG 54 (8, 5) rfl) rfl (by decide) fl_X3_18 rfl ?_
    refine j_iconst 1 dX3_takeBack_14 rfl (by decide) ?_
    refine j_isub dX3_takeBack_15 rfl ?_
    refine j_putI (ci := 3) (N := 5) (f := 0) (T := TX3) dX3_takeBack_16 rfl (hG 54 (8, 5) rfl) rfl (by decide) fl_X3_18 rfl rfl ?_
    refine j_aload_n dX3_takeBack_19 rfl rfl ?_
    refine j_aload_n dX3_takeBack_20 rfl rfl ?_
    refine j_getI (ci := 3) (N := 5) (f := 4) (T := TX3) dX3_takeBack_21 rfl (hG 54 (8, 5) rfl) rfl (by decide) fl_X3_28 rfl ?_
    refine j_bipush 40 dX3_takeBack_24 rfl (by decide) ?_
    refine j_iadd dX3_takeBack_26 rfl ?_
    refine j_iconst 1 dX3_takeBack_27 rfl (by decide) ?_
    refine j_isub dX3_takeBack_28 rfl ?_
    refine j_bipush 40 dX3_takeBack_29 rfl (by decide) ?_
    refine j_irem dX3_takeBack_31 rfl (by decide) ?_
    refine j_putI (ci := 3) (N := 5) (f := 4) (T := TX3) dX3_takeBack_32 rfl (hG 54 (8, 5) rfl) rfl (by decide) fl_X3_28 rfl rfl ?_
    refine j_aload_n dX3_takeBack_35 rfl rfl ?_
    refine j_getR (ci := 3) (N := 5) (f := 2) (T := TX3) 55 dX3_takeBack_36 rfl (hG 54 (8, 5) rfl) rfl (by decide) fl_X3_11 rfl (hP 54 2 55 rfl) ?_
    refine j_aload_n dX3_takeBack_39 rfl rfl ?_
    refine j_getI (ci := 3) (N := 5) (f := 4) (T := TX3) dX3_takeBack_40 rfl (hG 54 (8, 5) rfl) rfl (by decide) fl_X3_28 rfl ?_
    refine j_bipush 71 dX3_takeBack_43 rfl (by decide) ?_
    refine j_imul dX3_takeBack_45 rfl ?_
    refine j_aload_n dX3_takeBack_46 rfl rfl ?_
    refine j_getR (ci := 5) (N := 1) (f := 0) (T := TX5) 53 dX3_takeBack_47 rfl (hG 52 (10, 1) rfl) rfl (by decide) fl_X3_25 rfl (hP 52 0 53 rfl) ?_
    refine j_iconst 0 dX3_takeBack_50 rfl (by decide) ?_
    refine j_bipush 71 dX3_takeBack_51 rfl (by decide) ?_
    refine j_copy dX3_takeBack_53 rfl vw_X3_31 (hG 55 (0, 2840) rfl) (hG 53 (0, 71) rfl) (o0 c0) (by decide) (by decide) (o1 c0) (by decide) ⟨Nat.le_of_ble_eq_true rfl, fun _ _ => Nat.le_of_ble_eq_true rfl⟩ ?_
    refine j_iconst 1 dX3_takeBack_56 rfl (by decide) ?_
    exact j_zret dX3_takeBack_57 rfl (by decide) (k0 c0)
  · skip
    refine j_iconst 0 dX3_takeBack_7 rfl (by decide) ?_
    exact j_zret dX3_takeBack_8 rfl (by decide) (k1 c0)
theorem b_X3_fillSlot_0 {l : Launch} {G : jG} {μ : jM} {φ : Int32 → jM → Prop} {x1 : Int32} (hG : gGG G) (hP : gPP μ) 
    (k0 : (x1 < (0 : Int32)) → φ 0 μ) 
    (o0 : (¬ (x1 < (0 : Int32))) → (x1 < (3 : Int32)) → ¬ (x1 * 71) < (0 : Int32)) 
    (o1 : (¬ (x1 < (0 : Int32))) → (x1 < (3 : Int32)) → (Int32.toNatClampNeg (x1 * 71)) + (Int32.toNatClampNeg 71) ≤ 213) 
    (k1 : (¬ (x1 < (0 : Int32))) → (x1 < (3 : Int32)) → φ 1 (wI (sI μ 56 (va_cpy (μ.1 53) (μ.1 56) (Int32.toNatClampNeg 0) (Int32.toNatClampNeg (x1 * 71)) (Int32.toNatClampNeg 71))) 54 1 ((μ.1 54 1) ||| (1 <<< (x1 &&& 31))))) 
    (k2 : (¬ (x1 < (0 : Int32))) → (¬ (x1 < (3 : Int32))) → φ 0 μ) :
    J l mX3_fillSlot (jZ0 1 G (pI φ)) G 0 0 0 [.ref 54, .int x1, .ref 52] [] μ := by
  refine j_iload_n dX3_fillSlot_0 rfl rfl ?_
  refine j_if_lt 9 dX3_fillSlot_1 rfl (by decide) (fun c0 => ?_) (fun c0 => ?_)
  · skip
    refine j_iconst 0 dX3_fillSlot_9 rfl (by decide) ?_
    exact j_zret dX3_fillSlot_10 rfl (by decide) (k0 c0)
  · skip
    refine j_iload_n dX3_fillSlot_4 rfl rfl ?_
    refine j_iconst 3 dX3_fillSlot_5 rfl (by decide) ?_
    refine j_icmp_lt 11 dX3_fillSlot_6 rfl (by decide) (fun c1 => ?_) (fun c1 => ?_)
    · skip
      refine j_aload_n dX3_fillSlot_11 rfl rfl ?_
      refine j_getR (ci := 5) (N := 1) (f := 0) (T := TX5) 53 dX3_fillSlot_12 rfl (hG 52 (10, 1) rfl) rfl (by decide) fl_X3_25 rfl (hP 52 0 53 rfl) ?_
      refine j_iconst 0 dX3_fillSlot_15 rfl (by decide) ?_
      refine j_aload_n dX3_fillSlot_16 rfl rfl ?_
      refine j_getR (ci := 3) (N := 5) (f := 3) (T := TX3) 56 dX3_fillSlot_17 rfl (hG 54 (8, 5) rfl) rfl (by decide) fl_X3_15 rfl (hP 54 3 56 rfl) ?_
      refine j_iload_n dX3_fillSlot_20 rfl rfl ?_
      refine j_bipush 71 dX3_fillSlot_21 rfl (by decide) ?_
      refine j_imul dX3_fillSlot_23 rfl ?_
      refine j_bipush 71 dX3_fillSlot_24 rfl (by decide) ?_
      refine j_copy dX3_fillSlot_26 rfl vw_X3_31 (hG 53 (0, 71) rfl) (hG 56 (0, 213) rfl) (by decide) (o0 c0 c1) (by decide) (by decide) (o1 c0 c1) ⟨Nat.le_of_ble_eq_true rfl, fun _ _ => Nat.le_of_ble_eq_true rfl⟩ ?_
      refine j_aload_n dX3_fillSlot_29 rfl rfl ?_
      refine j_dup dX3_fillSlot_30 rfl (fun _ _ => rfl) ?_
      refine j_getI (ci := 3) (N := 5) (f := 1) (T := TX3) dX3_fillSlot_31 rfl (hG 54 (8, 5) rfl) rfl (by decide) fl_X3_22 rfl ?_
      refine j_iconst 1 dX3_fillSlot_34 rfl (by decide) ?_
      refine j_iload_n dX3_fillSlot_35 rfl rfl ?_
      refine j_ishl dX3_fillSlot_36 rfl ?_
      refine j_ior dX3_fillSlot_37 rfl ?_
      refine j_putI (ci := 3) (N := 5) (f := 1) (T := TX3) dX3_fillSlot_38 rfl (hG 54 (8, 5) rfl) rfl (by decide) fl_X3_22 rfl rfl ?_
      refine j_iconst 1 dX3_fillSlot_41 rfl (by decide) ?_
      exact j_zret dX3_fillSlot_42 rfl (by decide) (k1 c0 c1)
    · skip
      refine j_iconst 0 dX3_fillSlot_9 rfl (by decide) ?_
      exact j_zret dX3_fillSlot_10 rfl (by decide) (k2 c0 c1)
theorem b_X3_useSlot_0 {l : Launch} {G : jG} {μ : jM} {φ : Int32 → jM → Prop} {x1 : Int32} (hG : gGG G) (hP : gPP μ) 
    (k0 : (x1 < (0 : Int32)) → φ 0 μ) 
    (k1 : (¬ (x1 < (0 : Int32))) → (3 ≤ (x1 : Int32)) → φ 0 μ) 
    (o0 : (¬ (x1 < (0 : Int32))) → (¬ (3 ≤ (x1 : Int32))) → (¬ (((μ.1 54 1) >>> (x1 &&& 31)) &&& 1) = (0 : Int32)) → ¬ (x1 * 71) < (0 : Int32)) 
    (o1 : (¬ (x1 < (0 : Int32))) → (¬ (3 ≤ (x1 : Int32))) → (¬ (((μ.1 54 1) >>> (x1 &&& 31)) &&& 1) = (0 : Int32)) → (Int32.toNatClampNeg (x1 * 71)) + (Int32.toNatClampNeg 71) ≤ 213) 
    (k2 : (¬ (x1 < (0 : Int32))) → (¬ (3 ≤ (x1 : Int32))) → (¬ (((μ.1 54 1) >>> (x1 &&& 31)) &&& 1) = (0 : Int32)) → φ 1 (wI (sI μ 53 (va_cpy (μ.1 56) (μ.1 53) (Int32.toNatClampNeg (x1 * 71)) (Int32.toNatClampNeg 0) (Int32.toNatClampNeg 71))) 54 0 0)) 
    (k3 : (¬ (x1 < (0 : Int32))) → (¬ (3 ≤ (x1 : Int32))) → ((((μ.1 54 1) >>> (x1 &&& 31)) &&& 1) = (0 : Int32)) → φ 0 μ) :
    J l mX3_useSlot (jZ0 1 G (pI φ)) G 0 0 0 [.ref 54, .int x1, .ref 52] [] μ := by
  refine j_iload_n dX3_useSlot_0 rfl rfl ?_
  refine j_if_lt 20 dX3_useSlot_1 rfl (by decide) (fun c0 => ?_) (fun c0 => ?_)
  · skip
    refine j_iconst 0 dX3_useSlot_20 rfl (by decide) ?_
    exact j_zret dX3_useSlot_21 rfl (by decide) (k0 c0)
  · skip
    refine j_iload_n dX3_useSlot_4 rfl rfl ?_
    refine j_iconst 3 dX3_useSlot_5 rfl (by decide) ?_
    refine j_icmp_ge 20 dX3_useSlot_6 rfl (by decide) (fun c1 => ?_) (fun c1 => ?_)
    · skip
      refine j_iconst 0 dX3_useSlot_20 rfl (by decide) ?_
      exact j_zret dX3_useSlot_21 rfl (by decide) (k1 c0 c1)
    · skip
      refine j_aload_n dX3_useSlot_9 rfl rfl ?_
      refine j_getI (ci := 3) (N := 5) (f := 1) (T := TX3) dX3_useSlot_10 rfl (hG 54 (8, 5) rfl) rfl (by decide) fl_X3_22 rfl ?_
      refine j_iload_n dX3_useSlot_13 rfl rfl ?_
      refine j_ishr dX3_useSlot_14 rfl ?_
      refine j_iconst 1 dX3_useSlot_15 rfl (by decide) ?_
      refine j_iand dX3_useSlot_16 rfl ?_
      refine j_if_ne 22 dX3_useSlot_17 rfl (by decide) (fun c2 => ?_) (fun c2 => ?_)
      · skip
        refine j_aload_n dX3_useSlot_22 rfl rfl ?_
        refine j_getR (ci := 3) (N := 5) (f := 3) (T := TX3) 56 dX3_useSlot_23 rfl (hG 54 (8, 5) rfl) rfl (by decide) fl_X3_15 rfl (hP 54 3 56 rfl) ?_
        refine j_iload_n dX3_useSlot_26 rfl rfl ?_
        refine j_bipush 71 dX3_useSlot_27 rfl (by decide) ?_
        refine j_imul dX3_useSlot_29 rfl ?_
        refine j_aload_n dX3_useSlot_30 rfl rfl ?_
        refine j_getR (ci := 5) (N := 1) (f := 0) (T := TX5) 53 dX3_useSlot_31 rfl (hG 52 (10, 1) rfl) rfl (by decide) fl_X3_25 rfl (hP 52 0 53 rfl) ?_
        refine j_iconst 0 dX3_useSlot_34 rfl (by decide) ?_
        refine j_bipush 71 dX3_useSlot_35 rfl (by decide) ?_
        refine j_copy dX3_useSlot_37 rfl vw_X3_31 (hG 56 (0, 213) rfl) (hG 53 (0, 71) rfl) (o0 c0 c1 c2) (by decide) (by decide) (o1 c0 c1 c2) (by decide) ⟨Nat.le_of_ble_eq_true rfl, fun _ _ => Nat.le_of_ble_eq_true rfl⟩ ?_
        refine j_aload_n dX3_useSlot_40 rfl rfl ?_
        refine j_iconst 0 dX3_useSlot_41 rfl (by decide) ?_
        refine j_putI (ci := 3) (N := 5) (f := 0) (T := TX3) dX3_useSlot_42 rfl (hG 54 (8, 5) rfl) rfl (by decide) fl_X3_18 rfl rfl ?_
        refine j_iconst 1 dX3_useSlot_45 rfl (by decide) ?_
        exact j_zret dX3_useSlot_46 rfl (by decide) (k2 c0 c1 c2)
      · skip
        refine j_iconst 0 dX3_useSlot_20 rfl (by decide) ?_
        exact j_zret dX3_useSlot_21 rfl (by decide) (k3 c0 c1 c2)
theorem b_X5_begin_0 {l : Launch} {G : jG} {μ : jM} {φ : jM → Prop} {ψ0 : jM → Prop} {s t : Nat} (hG : gGG G) (hP : gPP μ) (hs : tO gState pState G μ s) (ht : tO gTold pTold G μ t) 
    (e0 : jC0 l mJA_fill_II 0 G [.ref (s + 1), .int 0] μ (pV ψ0)) 
    (k0 : ∀ μ', ψ0 μ' → J l mX5_begin (jZ0 1 G (pV φ)) G 0 0 8 [.ref s, .ref t] [] μ') :
    J l mX5_begin (jZ0 1 G (pV φ)) G 0 0 0 [.ref s, .ref t] [] μ := by
  refine j_aload_n dX5_begin_0 rfl rfl ?_
  refine j_getR (ci := 5) (N := 1) (f := 0) (T := TX5) (s + 1) dX5_begin_1 rfl (hs.1 0 (10, 1) rfl) rfl (by decide) fl_X5_11 rfl (hs.2 0 0 1 rfl) ?_
  refine j_iconst 0 dX5_begin_4 rfl (by decide) ?_
  refine j_cS (as := [.ref (s + 1), .int 0]) (rest := []) dX5_begin_5 rfl vw_X5_15 ⟨Nat.le_of_ble_eq_true rfl, Nat.le_of_ble_eq_true rfl⟩ rfl rfl (fun _ _ => Nat.le_of_ble_eq_true rfl) (e0 ) (fun r μ' hr => ?_)
  obtain ⟨rfl, hr⟩ := hr
  exact k0  μ' hr
theorem b_X5_begin_8 {l : Launch} {G : jG} {μ : jM} {φ : jM → Prop} {ψ0 : jM → Prop} {s t : Nat} (hG : gGG G) (hP : gPP μ) (hs : tO gState pState G μ s) (ht : tO gTold pTold G μ t) 
    (e0 : jC0 l mX5_setRates 0 G [.ref s, .int 1, .int 1] μ (pV ψ0)) 
    (k0 : ∀ μ', ψ0 μ' → J l mX5_begin (jZ0 1 G (pV φ)) G 0 0 14 [.ref s, .ref t] [] μ') :
    J l mX5_begin (jZ0 1 G (pV φ)) G 0 0 8 [.ref s, .ref t] [] μ := by
  refine j_aload_n dX5_begin_8 rfl rfl ?_
  refine j_iconst 1 dX5_begin_9 rfl (by decide) ?_
  refine j_iconst 1 dX5_begin_10 rfl (by decide) ?_
  refine j_cV (as := [.int 1, .int 1]) (rest := []) dX5_begin_11 rfl vw_X5_21 (hs.1 0 (10, 1) rfl) rfl ⟨Nat.le_of_ble_eq_true rfl, Nat.le_of_ble_eq_true rfl⟩ rfl rfl (fun _ _ => Nat.le_of_ble_eq_true rfl) (e0 ) (fun r μ' hr => ?_)
  obtain ⟨rfl, hr⟩ := hr
  exact k0  μ' hr
theorem b_X5_begin_14 {l : Launch} {G : jG} {μ : jM} {φ : jM → Prop} {s t : Nat} (hG : gGG G) (hP : gPP μ) (hs : tO gState pState G μ s) (ht : tO gTold pTold G μ t) 
    (k0 : φ (wI (wI (wI μ (s + 1) 4 (μ.1 t 7)) (s + 1) 5 ((wI μ (s + 1) 4 (μ.1 t 7)).1 t 19)) (s + 1) 6 ((1 <<< (((wI (wI μ (s + 1) 4 (μ.1 t 7)) (s + 1) 5 ((wI μ (s + 1) 4 (μ.1 t 7)).1 t 19)).1 t 2) &&& 31)) - 1))) :
    J l mX5_begin (jZ0 1 G (pV φ)) G 0 0 14 [.ref s, .ref t] [] μ := by
  refine j_aload_n dX5_begin_14 rfl rfl ?_
  refine j_getR (ci := 5) (N := 1) (f := 0) (T := TX5) (s + 1) dX5_begin_15 rfl (hs.1 0 (10, 1) rfl) rfl (by decide) fl_X5_11 rfl (hs.2 0 0 1 rfl) ?_
  refine j_iconst 4 dX5_begin_18 rfl (by decide) ?_
  refine j_aload_n dX5_begin_19 rfl rfl ?_
  refine j_getI (ci := 8) (N := 20) (f := 7) (T := TX8) dX5_begin_20 rfl (ht.1 0 (13, 20) rfl) rfl (by decide) fl_X5_25 rfl ?_
  refine j_iast' (j := 4) dX5_begin_23 rfl (hs.1 1 (0, 71) rfl) (vpK (by decide)) (by decide) ?_
  refine j_aload_n dX5_begin_24 rfl rfl ?_
  refine j_getR (ci := 5) (N := 1) (f := 0) (T := TX5) (s + 1) dX5_begin_25 rfl (hs.1 0 (10, 1) rfl) rfl (by decide) fl_X5_11 rfl (hs.2 0 0 1 rfl) ?_
  refine j_iconst 5 dX5_begin_28 rfl (by decide) ?_
  refine j_aload_n dX5_begin_29 rfl rfl ?_
  refine j_getI (ci := 8) (N := 20) (f := 19) (T := TX8) dX5_begin_30 rfl (ht.1 0 (13, 20) rfl) rfl (by decide) fl_X5_31 rfl ?_
  refine j_iast' (j := 5) dX5_begin_33 rfl (hs.1 1 (0, 71) rfl) (vpK (by decide)) (by decide) ?_
  refine j_aload_n dX5_begin_34 rfl rfl ?_
  refine j_getR (ci := 5) (N := 1) (f := 0) (T := TX5) (s + 1) dX5_begin_35 rfl (hs.1 0 (10, 1) rfl) rfl (by decide) fl_X5_11 rfl (hs.2 0 0 1 rfl) ?_
  refine j_bipush 6 dX5_begin_38 rfl (by decide) ?_
  refine j_iconst 1 dX5_begin_40 rfl (by decide) ?_
  refine j_aload_n dX5_begin_41 rfl rfl ?_
  refine j_getI (ci := 8) (N := 20) (f := 2) (T := TX8) dX5_begin_42 rfl (ht.1 0 (13, 20) rfl) rfl (by decide) fl_X5_34 rfl ?_
  refine j_ishl dX5_begin_45 rfl ?_
  refine j_iconst 1 dX5_begin_46 rfl (by decide) ?_
  refine j_isub dX5_begin_47 rfl ?_
  refine j_iast' (j := 6) dX5_begin_48 rfl (hs.1 1 (0, 71) rfl) (vpK (by decide)) (by decide) ?_
  exact j_vret dX5_begin_49 rfl (k0 )
theorem b_X5_setRates_0 {l : Launch} {G : jG} {μ : jM} {φ : jM → Prop} {x1 x2 : Int32} {s : Nat} (hG : gGG G) (hP : gPP μ) (hs : tO gState pState G μ s) 
    (k0 : φ (wI (wI μ (s + 1) 1 x1) (s + 1) 2 x2)) :
    J l mX5_setRates (jZ0 0 G (pV φ)) G 0 0 0 [.ref s, .int x1, .int x2] [] μ := by
  refine j_aload_n dX5_setRates_0 rfl rfl ?_
  refine j_getR (ci := 5) (N := 1) (f := 0) (T := TX5) (s + 1) dX5_setRates_1 rfl (hs.1 0 (10, 1) rfl) rfl (by decide) fl_X5_11 rfl (hs.2 0 0 1 rfl) ?_
  refine j_iconst 1 dX5_setRates_4 rfl (by decide) ?_
  refine j_iload_n dX5_setRates_5 rfl rfl ?_
  refine j_iast' (j := 1) dX5_setRates_6 rfl (hs.1 1 (0, 71) rfl) (vpK (by decide)) (by decide) ?_
  refine j_aload_n dX5_setRates_7 rfl rfl ?_
  refine j_getR (ci := 5) (N := 1) (f := 0) (T := TX5) (s + 1) dX5_setRates_8 rfl (hs.1 0 (10, 1) rfl) rfl (by decide) fl_X5_11 rfl (hs.2 0 0 1 rfl) ?_
  refine j_iconst 2 dX5_setRates_11 rfl (by decide) ?_
  refine j_iload_n dX5_setRates_12 rfl rfl ?_
  refine j_iast' (j := 2) dX5_setRates_13 rfl (hs.1 1 (0, 71) rfl) (vpK (by decide)) (by decide) ?_
  exact j_vret dX5_setRates_14 rfl (k0 )
theorem b_X5_copy_0 {l : Launch} {G : jG} {μ : jM} {φ : jM → Prop} {s s2 : Nat} (hG : gGG G) (hP : gPP μ) (hs : tO gState pState G μ s) (hs2 : tO gState pState G μ s2) 
    (k0 : φ (sI μ (s + 1) (va_cpy (μ.1 (s2 + 1)) (μ.1 (s + 1)) (Int32.toNatClampNeg 0) (Int32.toNatClampNeg 0) (Int32.toNatClampNeg 71)))) :
    J l mX5_copy (jZ0 1 G (pV φ)) G 0 0 0 [.ref s, .ref s2] [] μ := by
  refine j_aload_n dX5_copy_0 rfl rfl ?_
  refine j_getR (ci := 5) (N := 1) (f := 0) (T := TX5) (s2 + 1) dX5_copy_1 rfl (hs2.1 0 (10, 1) rfl) rfl (by decide) fl_X5_11 rfl (hs2.2 0 0 1 rfl) ?_
  refine j_iconst 0 dX5_copy_4 rfl (by decide) ?_
  refine j_aload_n dX5_copy_5 rfl rfl ?_
  refine j_getR (ci := 5) (N := 1) (f := 0) (T := TX5) (s + 1) dX5_copy_6 rfl (hs.1 0 (10, 1) rfl) rfl (by decide) fl_X5_11 rfl (hs.2 0 0 1 rfl) ?_
  refine j_iconst 0 dX5_copy_9 rfl (by decide) ?_
  refine j_bipush 71 dX5_copy_10 rfl (by decide) ?_
  refine j_copy dX5_copy_12 rfl vw_X5_37 (hs2.1 1 (0, 71) rfl) (hs.1 1 (0, 71) rfl) (by decide) (by decide) (by decide) (by decide) (by decide) ⟨Nat.le_of_ble_eq_true rfl, fun _ _ => Nat.le_of_ble_eq_true rfl⟩ ?_
  exact j_vret dX5_copy_15 rfl (k0 )
theorem b_X6_add_0 {l : Launch} {G : jG} {μ : jM} {φ : jM → Prop} {x1 : Int32} (hG : gGG G) (hP : gPP μ) 
    (k0 : J l mX6_add (jZ0 0 G (pV φ)) G 0 0 3 [.ref 1, .int x1, .int 24] [] μ) :
    J l mX6_add (jZ0 0 G (pV φ)) G 0 0 0 [.ref 1, .int x1, .null] [] μ := by
  refine j_bipush 24 dX6_add_0 rfl (by decide) ?_
  refine j_istore_n (ls' := [.ref 1, .int x1, .int 24]) dX6_add_2 rfl rfl (Nat.le_of_ble_eq_true rfl) rfl ?_
  exact k0 
theorem b_X6_add_3 {l : Launch} {G : jG} {μ : jM} {φ : jM → Prop} {x1 x2 : Int32} (hG : gGG G) (hP : gPP μ) 
    (k0 : (x2 < (0 : Int32)) → φ μ) 
    (k1 : (¬ (x2 < (0 : Int32))) → (2000 ≤ ((μ.1 1 1) : Int32)) → φ μ) 
    (o0 : (¬ (x2 < (0 : Int32))) → (¬ (2000 ≤ ((μ.1 1 1) : Int32))) → vp_in (μ.1 1 1) 2000) 
    (k2 : (¬ (x2 < (0 : Int32))) → (¬ (2000 ≤ ((μ.1 1 1) : Int32))) → J l mX6_add (jZ0 0 G (pV φ)) G 0 0 3 [.ref 1, .int x1, .int (x2 + (-8))] [] (wI (wI μ 2 (Int32.toNatClampNeg (μ.1 1 1)) (vp_nar .byte (Int8.toInt32 (Int32.toInt8 ((Int32.toUInt32 x1 >>> (Int32.toUInt32 x2 &&& Int32.toUInt32 31)).toInt32))))) 1 1 ((μ.1 1 1) + 1))) :
    J l mX6_add (jZ0 0 G (pV φ)) G 0 0 3 [.ref 1, .int x1, .int x2] [] μ := by
  refine j_iload_n dX6_add_3 rfl rfl ?_
  refine j_if_lt 46 dX6_add_4 rfl (by decide) (fun c0 => ?_) (fun c0 => ?_)
  · skip
    exact j_vret dX6_add_46 rfl (k0 c0)
  · skip
    refine j_aload_n dX6_add_7 rfl rfl ?_
    refine j_getI (ci := 6) (N := 2) (f := 1) (T := TX6) dX6_add_8 rfl (hG 1 (11, 2) rfl) rfl (by decide) fl_X6_15 rfl ?_
    refine j_sipush 2000 dX6_add_11 rfl (by decide) ?_
    refine j_icmp_ge 46 dX6_add_14 rfl (by decide) (fun c1 => ?_) (fun c1 => ?_)
    · skip
      exact j_vret dX6_add_46 rfl (k1 c0 c1)
    · skip
      refine j_aload_n dX6_add_17 rfl rfl ?_
      refine j_getR (ci := 6) (N := 2) (f := 0) (T := TX6) 2 dX6_add_18 rfl (hG 1 (11, 2) rfl) rfl (by decide) fl_X6_9 rfl (hP 1 0 2 rfl) ?_
      refine j_aload_n dX6_add_21 rfl rfl ?_
      refine j_getI (ci := 6) (N := 2) (f := 1) (T := TX6) dX6_add_22 rfl (hG 1 (11, 2) rfl) rfl (by decide) fl_X6_15 rfl ?_
      refine j_iload_n dX6_add_25 rfl rfl ?_
      refine j_iload_n dX6_add_26 rfl rfl ?_
      refine j_iushr dX6_add_27 rfl ?_
      refine j_i2b dX6_add_28 rfl ?_
      refine j_bast' (j := (Int32.toNatClampNeg (μ.1 1 1))) dX6_add_29 rfl (hG 2 (1, 2000) rfl) (o0 c0 c1) rfl ?_
      refine j_aload_n dX6_add_30 rfl rfl ?_
      refine j_dup dX6_add_31 rfl (fun _ _ => rfl) ?_
      refine j_getI (ci := 6) (N := 2) (f := 1) (T := TX6) dX6_add_32 rfl (hG 1 (11, 2) rfl) rfl (by decide) fl_X6_15 rfl ?_
      refine j_iconst 1 dX6_add_35 rfl (by decide) ?_
      refine j_iadd dX6_add_36 rfl ?_
      refine j_putI (ci := 6) (N := 2) (f := 1) (T := TX6) dX6_add_37 rfl (hG 1 (11, 2) rfl) rfl (by decide) fl_X6_15 rfl rfl ?_
      refine j_iinc (x2 + (-8)) (ls' := [.ref 1, .int x1, .int (x2 + (-8))]) dX6_add_40 rfl rfl rfl (Nat.le_of_ble_eq_true rfl) rfl ?_
      refine j_goto 3 dX6_add_43 (by decide) ?_
      exact k2 c0 c1
theorem b_X8_clear_0 {l : Launch} {G : jG} {μ : jM} {φ : jM → Prop} {ψ0 : jM → Prop} {t : Nat} (hG : gGG G) (hP : gPP μ) (ht : tO gTold pTold G μ t) 
    (e0 : jC0 l mX2_clear 1 G [.ref (t + 9)] (wI (wI (wI (wI (wI μ t 0 0) t 1 0) t 2 0) t 6 0) t 7 0) (pV ψ0)) 
    (k0 : ∀ μ', ψ0 μ' → J l mX8_clear (jZ0 2 G (pV φ)) G 0 0 32 [.ref t] [] μ') :
    J l mX8_clear (jZ0 2 G (pV φ)) G 0 0 0 [.ref t] [] μ := by
  refine j_aload_n dX8_clear_0 rfl rfl ?_
  refine j_iconst 0 dX8_clear_1 rfl (by decide) ?_
  refine j_putI (ci := 8) (N := 20) (f := 0) (T := TX8) dX8_clear_2 rfl (ht.1 0 (13, 20) rfl) rfl (by decide) fl_X8_51 rfl rfl ?_
  refine j_aload_n dX8_clear_5 rfl rfl ?_
  refine j_iconst 0 dX8_clear_6 rfl (by decide) ?_
  refine j_putI (ci := 8) (N := 20) (f := 1) (T := TX8) dX8_clear_7 rfl (ht.1 0 (13, 20) rfl) rfl (by decide) fl_X8_55 rfl rfl ?_
  refine j_aload_n dX8_clear_10 rfl rfl ?_
  refine j_iconst 0 dX8_clear_11 rfl (by decide) ?_
  refine j_putI (ci := 8) (N := 20) (f := 2) (T := TX8) dX8_clear_12 rfl (ht.1 0 (13, 20) rfl) rfl (by decide) fl_X8_58 rfl rfl ?_
  refine j_aload_n dX8_clear_15 rfl rfl ?_
  refine j_iconst 0 dX8_clear_16 rfl (by decide) ?_
  refine j_putI (ci := 8) (N := 20) (f := 6) (T := TX8) dX8_clear_17 rfl (ht.1 0 (13, 20) rfl) rfl (by decide) fl_X8_61 rfl rfl ?_
  refine j_aload_n dX8_clear_20 rfl rfl ?_
  refine j_iconst 0 dX8_clear_21 rfl (by decide) ?_
  refine j_putI (ci := 8) (N := 20) (f := 7) (T := TX8) dX8_clear_22 rfl (ht.1 0 (13, 20) rfl) rfl (by decide) fl_X8_64 rfl rfl ?_
  refine j_aload_n dX8_clear_25 rfl rfl ?_
  refine j_getR (ci := 8) (N := 20) (f := 13) (T := TX8) (t + 9) dX8_clear_26 rfl (ht.1 0 (13, 20) rfl) rfl (by decide) fl_X8_41 rfl (ht.2 0 13 9 rfl) ?_
  refine j_cV (as := []) (rest := []) dX8_clear_29 rfl vw_X8_67 (ht.1 9 (7, 6) rfl) rfl ⟨Nat.le_of_ble_eq_true rfl, Nat.le_of_ble_eq_true rfl⟩ rfl rfl (fun _ _ => Nat.le_of_ble_eq_true rfl) (e0 ) (fun r μ' hr => ?_)
  obtain ⟨rfl, hr⟩ := hr
  exact k0  μ' hr
theorem b_X8_clear_32 {l : Launch} {G : jG} {μ : jM} {φ : jM → Prop} {ψ0 : jM → Prop} {t : Nat} (hG : gGG G) (hP : gPP μ) (ht : tO gTold pTold G μ t) 
    (e0 : jC0 l mX2_addVar 1 G [.ref (t + 9), .int 4] μ (pV ψ0)) 
    (k0 : ∀ μ', ψ0 μ' → J l mX8_clear (jZ0 2 G (pV φ)) G 0 0 40 [.ref t] [] μ') :
    J l mX8_clear (jZ0 2 G (pV φ)) G 0 0 32 [.ref t] [] μ := by
  refine j_aload_n dX8_clear_32 rfl rfl ?_
  refine j_getR (ci := 8) (N := 20) (f := 13) (T := TX8) (t + 9) dX8_clear_33 rfl (ht.1 0 (13, 20) rfl) rfl (by decide) fl_X8_41 rfl (ht.2 0 13 9 rfl) ?_
  refine j_iconst 4 dX8_clear_36 rfl (by decide) ?_
  refine j_cV (as := [.int 4]) (rest := []) dX8_clear_37 rfl vw_X8_70 (ht.1 9 (7, 6) rfl) rfl ⟨Nat.le_of_ble_eq_true rfl, Nat.le_of_ble_eq_true rfl⟩ rfl rfl (fun _ _ => Nat.le_of_ble_eq_true rfl) (e0 ) (fun r μ' hr => ?_)
  obtain ⟨rfl, hr⟩ := hr
  exact k0  μ' hr
theorem b_X8_clear_40 {l : Launch} {G : jG} {μ : jM} {φ : jM → Prop} {ψ0 : Int32 → jM → Prop} {t : Nat} (hG : gGG G) (hP : gPP μ) (ht : tO gTold pTold G μ t) 
    (e0 : jC0 l mX2_add 0 G [.ref (t + 9), .int 7, .int 0] μ (pI ψ0)) 
    (k0 : ∀ v μ', ψ0 v μ' → J l mX8_clear (jZ0 2 G (pV φ)) G 0 0 50 [.ref t] [.int v] μ') :
    J l mX8_clear (jZ0 2 G (pV φ)) G 0 0 40 [.ref t] [] μ := by
  refine j_aload_n dX8_clear_40 rfl rfl ?_
  refine j_getR (ci := 8) (N := 20) (f := 13) (T := TX8) (t + 9) dX8_clear_41 rfl (ht.1 0 (13, 20) rfl) rfl (by decide) fl_X8_41 rfl (ht.2 0 13 9 rfl) ?_
  refine j_bipush 7 dX8_clear_44 rfl (by decide) ?_
  refine j_iconst 0 dX8_clear_46 rfl (by decide) ?_
  refine j_cV (as := [.int 7, .int 0]) (rest := []) dX8_clear_47 rfl vw_X8_73 (ht.1 9 (7, 6) rfl) rfl ⟨Nat.le_of_ble_eq_true rfl, Nat.le_of_ble_eq_true rfl⟩ rfl rfl (fun _ _ => Nat.le_of_ble_eq_true rfl) (e0 ) (fun r μ' hr => ?_)
  obtain ⟨v, rfl, hr⟩ := hr
  exact k0  v μ' hr
theorem b_X8_clear_50 {l : Launch} {G : jG} {μ : jM} {φ : jM → Prop} {z0 : Int32} {ψ0 : jM → Prop} {t : Nat} (hG : gGG G) (hP : gPP μ) (ht : tO gTold pTold G μ t) 
    (e0 : jC0 l mX2_clear 1 G [.ref (t + 13)] μ (pV ψ0)) 
    (k0 : ∀ μ', ψ0 μ' → J l mX8_clear (jZ0 2 G (pV φ)) G 0 0 58 [.ref t] [] μ') :
    J l mX8_clear (jZ0 2 G (pV φ)) G 0 0 50 [.ref t] [.int z0] μ := by
  refine j_pop dX8_clear_50 rfl (fun _ _ => rfl) ?_
  refine j_aload_n dX8_clear_51 rfl rfl ?_
  refine j_getR (ci := 8) (N := 20) (f := 14) (T := TX8) (t + 13) dX8_clear_52 rfl (ht.1 0 (13, 20) rfl) rfl (by decide) fl_X8_45 rfl (ht.2 0 14 13 rfl) ?_
  refine j_cV (as := []) (rest := []) dX8_clear_55 rfl vw_X8_67 (ht.1 13 (7, 6) rfl) rfl ⟨Nat.le_of_ble_eq_true rfl, Nat.le_of_ble_eq_true rfl⟩ rfl rfl (fun _ _ => Nat.le_of_ble_eq_true rfl) (e0 ) (fun r μ' hr => ?_)
  obtain ⟨rfl, hr⟩ := hr
  exact k0  μ' hr
theorem b_X8_clear_58 {l : Launch} {G : jG} {μ : jM} {φ : jM → Prop} {ψ0 : Int32 → jM → Prop} {t : Nat} (hG : gGG G) (hP : gPP μ) (ht : tO gTold pTold G μ t) 
    (e0 : jC0 l mX2_add 0 G [.ref (t + 13), .int 0, .int 5] μ (pI ψ0)) 
    (k0 : ∀ v μ', ψ0 v μ' → J l mX8_clear (jZ0 2 G (pV φ)) G 0 0 67 [.ref t] [.int v] μ') :
    J l mX8_clear (jZ0 2 G (pV φ)) G 0 0 58 [.ref t] [] μ := by
  refine j_aload_n dX8_clear_58 rfl rfl ?_
  refine j_getR (ci := 8) (N := 20) (f := 14) (T := TX8) (t + 13) dX8_clear_59 rfl (ht.1 0 (13, 20) rfl) rfl (by decide) fl_X8_45 rfl (ht.2 0 14 13 rfl) ?_
  refine j_iconst 0 dX8_clear_62 rfl (by decide) ?_
  refine j_iconst 5 dX8_clear_63 rfl (by decide) ?_
  refine j_cV (as := [.int 0, .int 5]) (rest := []) dX8_clear_64 rfl vw_X8_73 (ht.1 13 (7, 6) rfl) rfl ⟨Nat.le_of_ble_eq_true rfl, Nat.le_of_ble_eq_true rfl⟩ rfl rfl (fun _ _ => Nat.le_of_ble_eq_true rfl) (e0 ) (fun r μ' hr => ?_)
  obtain ⟨v, rfl, hr⟩ := hr
  exact k0  v μ' hr
theorem b_X8_clear_67 {l : Launch} {G : jG} {μ : jM} {φ : jM → Prop} {z0 : Int32} {ψ0 : Int32 → jM → Prop} {t : Nat} (hG : gGG G) (hP : gPP μ) (ht : tO gTold pTold G μ t) 
    (e0 : jC0 l mX2_add 0 G [.ref (t + 13), .int 7, .int 0] μ (pI ψ0)) 
    (k0 : ∀ v μ', ψ0 v μ' → J l mX8_clear (jZ0 2 G (pV φ)) G 0 0 78 [.ref t] [.int v] μ') :
    J l mX8_clear (jZ0 2 G (pV φ)) G 0 0 67 [.ref t] [.int z0] μ := by
  refine j_pop dX8_clear_67 rfl (fun _ _ => rfl) ?_
  refine j_aload_n dX8_clear_68 rfl rfl ?_
  refine j_getR (ci := 8) (N := 20) (f := 14) (T := TX8) (t + 13) dX8_clear_69 rfl (ht.1 0 (13, 20) rfl) rfl (by decide) fl_X8_45 rfl (ht.2 0 14 13 rfl) ?_
  refine j_bipush 7 dX8_clear_72 rfl (by decide) ?_
  refine j_iconst 0 dX8_clear_74 rfl (by decide) ?_
  refine j_cV (as := [.int 7, .int 0]) (rest := []) dX8_clear_75 rfl vw_X8_73 (ht.1 13 (7, 6) rfl) rfl ⟨Nat.le_of_ble_eq_true rfl, Nat.le_of_ble_eq_true rfl⟩ rfl rfl (fun _ _ => Nat.le_of_ble_eq_true rfl) (e0 ) (fun r μ' hr => ?_)
  obtain ⟨v, rfl, hr⟩ := hr
  exact k0  v μ' hr
theorem b_X8_clear_78 {l : Launch} {G : jG} {μ : jM} {φ : jM → Prop} {z0 : Int32} {ψ0 : jM → Prop} {t : Nat} (hG : gGG G) (hP : gPP μ) (ht : tO gTold pTold G μ t) 
    (e0 : jC0 l mX2_clear 1 G [.ref (t + 17)] μ (pV ψ0)) 
    (k0 : ∀ μ', ψ0 μ' → J l mX8_clear (jZ0 2 G (pV φ)) G 0 0 86 [.ref t] [] μ') :
    J l mX8_clear (jZ0 2 G (pV φ)) G 0 0 78 [.ref t] [.int z0] μ := by
  refine j_pop dX8_clear_78 rfl (fun _ _ => rfl) ?_
  refine j_aload_n dX8_clear_79 rfl rfl ?_
  refine j_getR (ci := 8) (N := 20) (f := 15) (T := TX8) (t + 17) dX8_clear_80 rfl (ht.1 0 (13, 20) rfl) rfl (by decide) fl_X8_48 rfl (ht.2 0 15 17 rfl) ?_
  refine j_cV (as := []) (rest := []) dX8_clear_83 rfl vw_X8_67 (ht.1 17 (7, 6) rfl) rfl ⟨Nat.le_of_ble_eq_true rfl, Nat.le_of_ble_eq_true rfl⟩ rfl rfl (fun _ _ => Nat.le_of_ble_eq_true rfl) (e0 ) (fun r μ' hr => ?_)
  obtain ⟨rfl, hr⟩ := hr
  exact k0  μ' hr
theorem b_X8_clear_86 {l : Launch} {G : jG} {μ : jM} {φ : jM → Prop} {ψ0 : Int32 → jM → Prop} {t : Nat} (hG : gGG G) (hP : gPP μ) (ht : tO gTold pTold G μ t) 
    (e0 : jC0 l mX2_add 0 G [.ref (t + 17), .int 0, .int 99] μ (pI ψ0)) 
    (k0 : ∀ v μ', ψ0 v μ' → J l mX8_clear (jZ0 2 G (pV φ)) G 0 0 96 [.ref t] [.int v] μ') :
    J l mX8_clear (jZ0 2 G (pV φ)) G 0 0 86 [.ref t] [] μ := by
  refine j_aload_n dX8_clear_86 rfl rfl ?_
  refine j_getR (ci := 8) (N := 20) (f := 15) (T := TX8) (t + 17) dX8_clear_87 rfl (ht.1 0 (13, 20) rfl) rfl (by decide) fl_X8_48 rfl (ht.2 0 15 17 rfl) ?_
  refine j_iconst 0 dX8_clear_90 rfl (by decide) ?_
  refine j_bipush 99 dX8_clear_91 rfl (by decide) ?_
  refine j_cV (as := [.int 0, .int 99]) (rest := []) dX8_clear_93 rfl vw_X8_73 (ht.1 17 (7, 6) rfl) rfl ⟨Nat.le_of_ble_eq_true rfl, Nat.le_of_ble_eq_true rfl⟩ rfl rfl (fun _ _ => Nat.le_of_ble_eq_true rfl) (e0 ) (fun r μ' hr => ?_)
  obtain ⟨v, rfl, hr⟩ := hr
  exact k0  v μ' hr
theorem b_X8_clear_96 {l : Launch} {G : jG} {μ : jM} {φ : jM → Prop} {z0 : Int32} {ψ0 : Int32 → jM → Prop} {t : Nat} (hG : gGG G) (hP : gPP μ) (ht : tO gTold pTold G μ t) 
    (e0 : jC0 l mX2_add 0 G [.ref (t + 17), .int 7, .int 0] μ (pI ψ0)) 
    (k0 : ∀ v μ', ψ0 v μ' → J l mX8_clear (jZ0 2 G (pV φ)) G 0 0 107 [.ref t] [.int v] μ') :
    J l mX8_clear (jZ0 2 G (pV φ)) G 0 0 96 [.ref t] [.int z0] μ := by
  refine j_pop dX8_clear_96 rfl (fun _ _ => rfl) ?_
  refine j_aload_n dX8_clear_97 rfl rfl ?_
  refine j_getR (ci := 8) (N := 20) (f := 15) (T := TX8) (t + 17) dX8_clear_98 rfl (ht.1 0 (13, 20) rfl) rfl (by decide) fl_X8_48 rfl (ht.2 0 15 17 rfl) ?_
  refine j_bipush 7 dX8_clear_101 rfl (by decide) ?_
  refine j_iconst 0 dX8_clear_103 rfl (by decide) ?_
  refine j_cV (as := [.int 7, .int 0]) (rest := []) dX8_clear_104 rfl vw_X8_73 (ht.1 17 (7, 6) rfl) rfl ⟨Nat.le_of_ble_eq_true rfl, Nat.le_of_ble_eq_true rfl⟩ rfl rfl (fun _ _ => Nat.le_of_ble_eq_true rfl) (e0 ) (fun r μ' hr => ?_)
  obtain ⟨v, rfl, hr⟩ := hr
  exact k0  v μ' hr
theorem b_X8_clear_107 {l : Launch} {G : jG} {μ : jM} {φ : jM → Prop} {z0 : Int32} {t : Nat} (hG : gGG G) (hP : gPP μ) (ht : tO gTold pTold G μ t) 
    (k0 : φ (wI (wI (wI (wI μ t 16 0) t 17 10) t 18 20) t 19 0)) :
    J l mX8_clear (jZ0 2 G (pV φ)) G 0 0 107 [.ref t] [.int z0] μ := by
  refine j_pop dX8_clear_107 rfl (fun _ _ => rfl) ?_
  refine j_aload_n dX8_clear_108 rfl rfl ?_
  refine j_iconst 0 dX8_clear_109 rfl (by decide) ?_
  refine j_putI (ci := 8) (N := 20) (f := 16) (T := TX8) dX8_clear_110 rfl (ht.1 0 (13, 20) rfl) rfl (by decide) fl_X8_77 rfl rfl ?_
  refine j_aload_n dX8_clear_113 rfl rfl ?_
  refine j_bipush 10 dX8_clear_114 rfl (by decide) ?_
  refine j_putI (ci := 8) (N := 20) (f := 17) (T := TX8) dX8_clear_116 rfl (ht.1 0 (13, 20) rfl) rfl (by decide) fl_X8_80 rfl rfl ?_
  refine j_aload_n dX8_clear_119 rfl rfl ?_
  refine j_bipush 20 dX8_clear_120 rfl (by decide) ?_
  refine j_putI (ci := 8) (N := 20) (f := 18) (T := TX8) dX8_clear_122 rfl (ht.1 0 (13, 20) rfl) rfl (by decide) fl_X8_83 rfl rfl ?_
  refine j_aload_n dX8_clear_125 rfl rfl ?_
  refine j_iconst 0 dX8_clear_126 rfl (by decide) ?_
  refine j_putI (ci := 8) (N := 20) (f := 19) (T := TX8) dX8_clear_127 rfl (ht.1 0 (13, 20) rfl) rfl (by decide) fl_X8_86 rfl rfl ?_
  exact j_vret dX8_clear_130 rfl (k0 )
theorem b_X8_isNightOf_0 {l : Launch} {G : jG} {μ : jM} {φ : Int32 → jM → Prop} {x1 x2 : Int32} {t : Nat} (hG : gGG G) (hP : gPP μ) (ht : tO gTold pTold G μ t) 
    (o0 : vp_in x1 7) 
    (k0 : ((μ.1 (t + 8) (Int32.toNatClampNeg x1)) ≤ (0 : Int32)) → φ 0 μ) 
    (o1 : (¬ ((μ.1 (t + 8) (Int32.toNatClampNeg x1)) ≤ (0 : Int32))) → ¬ ((μ.1 (t + 8) (Int32.toNatClampNeg x1)) : Int32) = 0) 
    (k1 : (¬ ((μ.1 (t + 8) (Int32.toNatClampNeg x1)) ≤ (0 : Int32))) → (¬ (x2 - x2 / (μ.1 (t + 8) (Int32.toNatClampNeg x1)) * (μ.1 (t + 8) (Int32.toNatClampNeg x1))) = (0 : Int32)) → φ 0 μ) 
    (k2 : (¬ ((μ.1 (t + 8) (Int32.toNatClampNeg x1)) ≤ (0 : Int32))) → ((x2 - x2 / (μ.1 (t + 8) (Int32.toNatClampNeg x1)) * (μ.1 (t + 8) (Int32.toNatClampNeg x1))) = (0 : Int32)) → φ 1 μ) :
    J l mX8_isNightOf (jZ0 0 G (pI φ)) G 0 0 0 [.ref t, .int x1, .int x2, .null] [] μ := by
  refine j_aload_n dX8_isNightOf_0 rfl rfl ?_
  refine j_getR (ci := 8) (N := 20) (f := 12) (T := TX8) (t + 8) dX8_isNightOf_1 rfl (ht.1 0 (13, 20) rfl) rfl (by decide) fl_X8_33 rfl (ht.2 0 12 8 rfl) ?_
  refine j_iload_n dX8_isNightOf_4 rfl rfl ?_
  refine j_iald' (j := (Int32.toNatClampNeg x1)) dX8_isNightOf_5 rfl (ht.1 8 (0, 7) rfl) o0 rfl ?_
  refine j_istore_n (ls' := [.ref t, .int x1, .int x2, .int (μ.1 (t + 8) (Int32.toNatClampNeg x1))]) dX8_isNightOf_6 rfl rfl (Nat.le_of_ble_eq_true rfl) rfl ?_
  refine j_iload_n dX8_isNightOf_7 rfl rfl ?_
  refine j_if_le 21 dX8_isNightOf_8 rfl (by decide) (fun c0 => ?_) (fun c0 => ?_)
  · skip
    refine j_iconst 0 dX8_isNightOf_21 rfl (by decide) ?_
    exact j_zret dX8_isNightOf_22 rfl (by decide) (k0 c0)
  · skip
    refine j_iload_n dX8_isNightOf_11 rfl rfl ?_
    refine j_iload_n dX8_isNightOf_12 rfl rfl ?_
    refine j_irem dX8_isNightOf_13 rfl (o1 c0) ?_
    refine j_if_ne 21 dX8_isNightOf_14 rfl (by decide) (fun c1 => ?_) (fun c1 => ?_)
    · skip
      refine j_iconst 0 dX8_isNightOf_21 rfl (by decide) ?_
      exact j_zret dX8_isNightOf_22 rfl (by decide) (k1 c0 c1)
    · skip
      refine j_iconst 1 dX8_isNightOf_17 rfl (by decide) ?_
      refine j_goto 22 dX8_isNightOf_18 (by decide) ?_
      exact j_zret dX8_isNightOf_22 rfl (by decide) (k2 c0 c1)
theorem b_X8_hangsOnSeed_0 {l : Launch} {G : jG} {μ : jM} {φ : Int32 → jM → Prop} {ψ0 : Int32 → jM → Prop} {t : Nat} (hG : gGG G) (hP : gPP μ) (ht : tO gTold pTold G μ t) 
    (e0 : jC0 l mX2_looksAtFog 0 G [.ref (t + 9)] μ (pI ψ0)) 
    (k0 : ∀ v μ', ψ0 v μ' → J l mX8_hangsOnSeed (jZ0 1 G (pI φ)) G 0 0 7 [.ref t, .null] [.int v] μ') :
    J l mX8_hangsOnSeed (jZ0 1 G (pI φ)) G 0 0 0 [.ref t, .null] [] μ := by
  refine j_aload_n dX8_hangsOnSeed_0 rfl rfl ?_
  refine j_getR (ci := 8) (N := 20) (f := 13) (T := TX8) (t + 9) dX8_hangsOnSeed_1 rfl (ht.1 0 (13, 20) rfl) rfl (by decide) fl_X8_41 rfl (ht.2 0 13 9 rfl) ?_
  refine j_cV (as := []) (rest := []) dX8_hangsOnSeed_4 rfl vw_X8_89 (ht.1 9 (7, 6) rfl) rfl ⟨Nat.le_of_ble_eq_true rfl, Nat.le_of_ble_eq_true rfl⟩ rfl rfl (fun _ _ => Nat.le_of_ble_eq_true rfl) (e0 ) (fun r μ' hr => ?_)
  obtain ⟨v, rfl, hr⟩ := hr
  exact k0  v μ' hr
theorem b_X8_hangsOnSeed_7 {l : Launch} {G : jG} {μ : jM} {φ : Int32 → jM → Prop} {z0 : Int32} {ψ4 : Int32 → jM → Prop} {t : Nat} (hG : gGG G) (hP : gPP μ) (ht : tO gTold pTold G μ t) 
    (k0 : (¬ z0 = (0 : Int32)) → (1 = (0 : Int32)) → φ 0 μ) 
    (k1 : (¬ z0 = (0 : Int32)) → (¬ (1 = (0 : Int32))) → ((μ.1 t 16) ≤ (0 : Int32)) → φ 0 μ) 
    (k2 : (¬ z0 = (0 : Int32)) → (¬ (1 = (0 : Int32))) → (¬ ((μ.1 t 16) ≤ (0 : Int32))) → (100 ≤ ((μ.1 t 16) : Int32)) → φ 0 μ) 
    (k3 : (¬ z0 = (0 : Int32)) → (¬ (1 = (0 : Int32))) → (¬ ((μ.1 t 16) ≤ (0 : Int32))) → (¬ (100 ≤ ((μ.1 t 16) : Int32))) → φ 1 μ) 
    (e4 : (z0 = (0 : Int32)) → jC0 l mX2_looksAtFog 0 G [.ref (t + 13)] μ (pI ψ4)) 
    (k4 : (z0 = (0 : Int32)) → ∀ v μ', ψ4 v μ' → J l mX8_hangsOnSeed (jZ0 1 G (pI φ)) G 0 0 17 [.ref t, .null] [.int v] μ') :
    J l mX8_hangsOnSeed (jZ0 1 G (pI φ)) G 0 0 7 [.ref t, .null] [.int z0] μ := by
  refine j_if_ne 20 dX8_hangsOnSeed_7 rfl (by decide) (fun c0 => ?_) (fun c0 => ?_)
  · skip
    refine j_iconst 1 dX8_hangsOnSeed_20 rfl (by decide) ?_
    refine j_goto 25 dX8_hangsOnSeed_21 (by decide) ?_
    refine j_istore_n (ls' := [.ref t, .int 1]) dX8_hangsOnSeed_25 rfl rfl (Nat.le_of_ble_eq_true rfl) rfl ?_
    refine j_iload_n dX8_hangsOnSeed_26 rfl rfl ?_
    refine j_if_eq 50 dX8_hangsOnSeed_27 rfl (by decide) (fun c1 => ?_) (fun c1 => ?_)
    · skip
      refine j_iconst 0 dX8_hangsOnSeed_50 rfl (by decide) ?_
      exact j_zret dX8_hangsOnSeed_51 rfl (by decide) (k0 c0 c1)
    · skip
      refine j_aload_n dX8_hangsOnSeed_30 rfl rfl ?_
      refine j_getI (ci := 8) (N := 20) (f := 16) (T := TX8) dX8_hangsOnSeed_31 rfl (ht.1 0 (13, 20) rfl) rfl (by decide) fl_X8_77 rfl ?_
      refine j_if_le 50 dX8_hangsOnSeed_34 rfl (by decide) (fun c2 => ?_) (fun c2 => ?_)
      · skip
        refine j_iconst 0 dX8_hangsOnSeed_50 rfl (by decide) ?_
        exact j_zret dX8_hangsOnSeed_51 rfl (by decide) (k1 c0 c1 c2)
      · skip
        refine j_aload_n dX8_hangsOnSeed_37 rfl rfl ?_
        refine j_getI (ci := 8) (N := 20) (f := 16) (T := TX8) dX8_hangsOnSeed_38 rfl (ht.1 0 (13, 20) rfl) rfl (by decide) fl_X8_77 rfl ?_
        refine j_bipush 100 dX8_hangsOnSeed_41 rfl (by decide) ?_
        refine j_icmp_ge 50 dX8_hangsOnSeed_43 rfl (by decide) (fun c3 => ?_) (fun c3 => ?_)
        · skip
          refine j_iconst 0 dX8_hangsOnSeed_50 rfl (by decide) ?_
          exact j_zret dX8_hangsOnSeed_51 rfl (by decide) (k2 c0 c1 c2 c3)
        · skip
          refine j_iconst 1 dX8_hangsOnSeed_46 rfl (by decide) ?_
          refine j_goto 51 dX8_hangsOnSeed_47 (by decide) ?_
          exact j_zret dX8_hangsOnSeed_51 rfl (by decide) (k3 c0 c1 c2 c3)
  · skip
    refine j_aload_n dX8_hangsOnSeed_10 rfl rfl ?_
    refine j_getR (ci := 8) (N := 20) (f := 14) (T := TX8) (t + 13) dX8_hangsOnSeed_11 rfl (ht.1 0 (13, 20) rfl) rfl (by decide) fl_X8_45 rfl (ht.2 0 14 13 rfl) ?_
    refine j_cV (as := []) (rest := []) dX8_hangsOnSeed_14 rfl vw_X8_89 (ht.1 13 (7, 6) rfl) rfl ⟨Nat.le_of_ble_eq_true rfl, Nat.le_of_ble_eq_true rfl⟩ rfl rfl (fun _ _ => Nat.le_of_ble_eq_true rfl) (e4 c0) (fun r μ' hr => ?_)
    obtain ⟨v, rfl, hr⟩ := hr
    exact k4 c0 v μ' hr
theorem b_X8_hangsOnSeed_17 {l : Launch} {G : jG} {μ : jM} {φ : Int32 → jM → Prop} {z0 : Int32} {t : Nat} (hG : gGG G) (hP : gPP μ) (ht : tO gTold pTold G μ t) 
    (k0 : (z0 = (0 : Int32)) → (0 = (0 : Int32)) → φ 0 μ) 
    (k1 : (z0 = (0 : Int32)) → (¬ (0 = (0 : Int32))) → ((μ.1 t 16) ≤ (0 : Int32)) → φ 0 μ) 
    (k2 : (z0 = (0 : Int32)) → (¬ (0 = (0 : Int32))) → (¬ ((μ.1 t 16) ≤ (0 : Int32))) → (100 ≤ ((μ.1 t 16) : Int32)) → φ 0 μ) 
    (k3 : (z0 = (0 : Int32)) → (¬ (0 = (0 : Int32))) → (¬ ((μ.1 t 16) ≤ (0 : Int32))) → (¬ (100 ≤ ((μ.1 t 16) : Int32))) → φ 1 μ) 
    (k4 : (¬ (z0 = (0 : Int32))) → (1 = (0 : Int32)) → φ 0 μ) 
    (k5 : (¬ (z0 = (0 : Int32))) → (¬ (1 = (0 : Int32))) → ((μ.1 t 16) ≤ (0 : Int32)) → φ 0 μ) 
    (k6 : (¬ (z0 = (0 : Int32))) → (¬ (1 = (0 : Int32))) → (¬ ((μ.1 t 16) ≤ (0 : Int32))) → (100 ≤ ((μ.1 t 16) : Int32)) → φ 0 μ) 
    (k7 : (¬ (z0 = (0 : Int32))) → (¬ (1 = (0 : Int32))) → (¬ ((μ.1 t 16) ≤ (0 : Int32))) → (¬ (100 ≤ ((μ.1 t 16) : Int32))) → φ 1 μ) :
    J l mX8_hangsOnSeed (jZ0 1 G (pI φ)) G 0 0 17 [.ref t, .null] [.int z0] μ := by
  refine j_if_eq 24 dX8_hangsOnSeed_17 rfl (by decide) (fun c0 => ?_) (fun c0 => ?_)
  · skip
    refine j_iconst 0 dX8_hangsOnSeed_24 rfl (by decide) ?_
    refine j_istore_n (ls' := [.ref t, .int 0]) dX8_hangsOnSeed_25 rfl rfl (Nat.le_of_ble_eq_true rfl) rfl ?_
    refine j_iload_n dX8_hangsOnSeed_26 rfl rfl ?_
    refine j_if_eq 50 dX8_hangsOnSeed_27 rfl (by decide) (fun c1 => ?_) (fun c1 => ?_)
    · skip
      refine j_iconst 0 dX8_hangsOnSeed_50 rfl (by decide) ?_
      exact j_zret dX8_hangsOnSeed_51 rfl (by decide) (k0 c0 c1)
    · skip
      refine j_aload_n dX8_hangsOnSeed_30 rfl rfl ?_
      refine j_getI (ci := 8) (N := 20) (f := 16) (T := TX8) dX8_hangsOnSeed_31 rfl (ht.1 0 (13, 20) rfl) rfl (by decide) fl_X8_77 rfl ?_
      refine j_if_le 50 dX8_hangsOnSeed_34 rfl (by decide) (fun c2 => ?_) (fun c2 => ?_)
      · skip
        refine j_iconst 0 dX8_hangsOnSeed_50 rfl (by decide) ?_
        exact j_zret dX8_hangsOnSeed_51 rfl (by decide) (k1 c0 c1 c2)
      · skip
        refine j_aload_n dX8_hangsOnSeed_37 rfl rfl ?_
        refine j_getI (ci := 8) (N := 20) (f := 16) (T := TX8) dX8_hangsOnSeed_38 rfl (ht.1 0 (13, 20) rfl) rfl (by decide) fl_X8_77 rfl ?_
        refine j_bipush 100 dX8_hangsOnSeed_41 rfl (by decide) ?_
        refine j_icmp_ge 50 dX8_hangsOnSeed_43 rfl (by decide) (fun c3 => ?_) (fun c3 => ?_)
        · skip
          refine j_iconst 0 dX8_hangsOnSeed_50 rfl (by decide) ?_
          exact j_zret dX8_hangsOnSeed_51 rfl (by decide) (k2 c0 c1 c2 c3)
        · skip
          refine j_iconst 1 dX8_hangsOnSeed_46 rfl (by decide) ?_
          refine j_goto 51 dX8_hangsOnSeed_47 (by decide) ?_
          exact j_zret dX8_hangsOnSeed_51 rfl (by decide) (k3 c0 c1 c2 c3)
  · skip
    refine j_iconst 1 dX8_hangsOnSeed_20 rfl (by decide) ?_
    refine j_goto 25 dX8_hangsOnSeed_21 (by decide) ?_
    refine j_istore_n (ls' := [.ref t, .int 1]) dX8_hangsOnSeed_25 rfl rfl (Nat.le_of_ble_eq_true rfl) rfl ?_
    refine j_iload_n dX8_hangsOnSeed_26 rfl rfl ?_
    refine j_if_eq 50 dX8_hangsOnSeed_27 rfl (by decide) (fun c4 => ?_) (fun c4 => ?_)
    · skip
      refine j_iconst 0 dX8_hangsOnSeed_50 rfl (by decide) ?_
      exact j_zret dX8_hangsOnSeed_51 rfl (by decide) (k4 c0 c4)
    · skip
      refine j_aload_n dX8_hangsOnSeed_30 rfl rfl ?_
      refine j_getI (ci := 8) (N := 20) (f := 16) (T := TX8) dX8_hangsOnSeed_31 rfl (ht.1 0 (13, 20) rfl) rfl (by decide) fl_X8_77 rfl ?_
      refine j_if_le 50 dX8_hangsOnSeed_34 rfl (by decide) (fun c5 => ?_) (fun c5 => ?_)
      · skip
        refine j_iconst 0 dX8_hangsOnSeed_50 rfl (by decide) ?_
        exact j_zret dX8_hangsOnSeed_51 rfl (by decide) (k5 c0 c4 c5)
      · skip
        refine j_aload_n dX8_hangsOnSeed_37 rfl rfl ?_
        refine j_getI (ci := 8) (N := 20) (f := 16) (T := TX8) dX8_hangsOnSeed_38 rfl (ht.1 0 (13, 20) rfl) rfl (by decide) fl_X8_77 rfl ?_
        refine j_bipush 100 dX8_hangsOnSeed_41 rfl (by decide) ?_
        refine j_icmp_ge 50 dX8_hangsOnSeed_43 rfl (by decide) (fun c6 => ?_) (fun c6 => ?_)
        · skip
          refine j_iconst 0 dX8_hangsOnSeed_50 rfl (by decide) ?_
          exact j_zret dX8_hangsOnSeed_51 rfl (by decide) (k6 c0 c4 c5 c6)
        · skip
          refine j_iconst 1 dX8_hangsOnSeed_46 rfl (by decide) ?_
          refine j_goto 51 dX8_hangsOnSeed_47 (by decide) ?_
          exact j_zret dX8_hangsOnSeed_51 rfl (by decide) (k7 c0 c4 c5 c6)
theorem b_X8_sheetChance_0 {l : Launch} {G : jG} {μ : jM} {φ : Int32 → jM → Prop} {x1 x2 : Int32} {t : Nat} (hG : gGG G) (hP : gPP μ) (ht : tO gTold pTold G μ t) 
    (k0 : (x1 = (0 : Int32)) → J l mX8_sheetChance (jZ0 1 G (pI φ)) G 0 0 22 [.ref t, .int x1, .int x2, .null, .null, .null, .null, .null] [.int (100 - (μ.1 t 18)), .int (μ.1 t 17)] μ) 
    (k1 : (¬ (x1 = (0 : Int32))) → J l mX8_sheetChance (jZ0 1 G (pI φ)) G 0 0 22 [.ref t, .int x1, .int x2, .null, .null, .null, .null, .null] [.int (μ.1 t 18), .int (μ.1 t 17)] μ) :
    J l mX8_sheetChance (jZ0 1 G (pI φ)) G 0 0 0 [.ref t, .int x1, .int x2, .null, .null, .null, .null, .null] [] μ := by
  refine j_aload_n dX8_sheetChance_0 rfl rfl ?_
  refine j_getI (ci := 8) (N := 20) (f := 17) (T := TX8) dX8_sheetChance_1 rfl (ht.1 0 (13, 20) rfl) rfl (by decide) fl_X8_80 rfl ?_
  refine j_iload_n dX8_sheetChance_4 rfl rfl ?_
  refine j_if_eq 15 dX8_sheetChance_5 rfl (by decide) (fun c0 => ?_) (fun c0 => ?_)
  · skip
    refine j_bipush 100 dX8_sheetChance_15 rfl (by decide) ?_
    refine j_aload_n dX8_sheetChance_17 rfl rfl ?_
    refine j_getI (ci := 8) (N := 20) (f := 18) (T := TX8) dX8_sheetChance_18 rfl (ht.1 0 (13, 20) rfl) rfl (by decide) fl_X8_83 rfl ?_
    refine j_isub dX8_sheetChance_21 rfl ?_
    exact k0 c0
  · skip
    refine j_aload_n dX8_sheetChance_8 rfl rfl ?_
    refine j_getI (ci := 8) (N := 20) (f := 18) (T := TX8) dX8_sheetChance_9 rfl (ht.1 0 (13, 20) rfl) rfl (by decide) fl_X8_83 rfl ?_
    refine j_goto 22 dX8_sheetChance_12 (by decide) ?_
    exact k1 c0
theorem b_X8_sheetChance_22 {l : Launch} {G : jG} {μ : jM} {φ : Int32 → jM → Prop} {x1 x2 z0 z1 : Int32} {t : Nat} (hG : gGG G) (hP : gPP μ) (ht : tO gTold pTold G μ t) 
    (k0 : (x1 = (0 : Int32)) → J l mX8_sheetChance (jZ0 1 G (pI φ)) G 0 0 49 [.null, .null, .int x2, .int (z1 * z0), .null, .null, .null, .null] [.int (μ.1 t 18), .int (100 - (μ.1 t 17))] μ) 
    (k1 : (¬ (x1 = (0 : Int32))) → J l mX8_sheetChance (jZ0 1 G (pI φ)) G 0 0 49 [.null, .null, .int x2, .int (z1 * z0), .null, .null, .null, .null] [.int (100 - (μ.1 t 18)), .int (100 - (μ.1 t 17))] μ) :
    J l mX8_sheetChance (jZ0 1 G (pI φ)) G 0 0 22 [.ref t, .int x1, .int x2, .null, .null, .null, .null, .null] [.int z0, .int z1] μ := by
  refine j_imul dX8_sheetChance_22 rfl ?_
  refine j_istore_n (ls' := [.ref t, .int x1, .int x2, .int (z1 * z0), .null, .null, .null, .null]) dX8_sheetChance_23 rfl rfl (Nat.le_of_ble_eq_true rfl) rfl ?_
  refine j_bipush 100 dX8_sheetChance_24 rfl (by decide) ?_
  refine j_aload_n dX8_sheetChance_26 rfl rfl ?_
  refine j_getI (ci := 8) (N := 20) (f := 17) (T := TX8) dX8_sheetChance_27 rfl (ht.1 0 (13, 20) rfl) rfl (by decide) fl_X8_80 rfl ?_
  refine j_isub dX8_sheetChance_30 rfl ?_
  refine j_iload_n dX8_sheetChance_31 rfl rfl ?_
  refine j_if_eq 45 dX8_sheetChance_32 rfl (by decide) (fun c0 => ?_) (fun c0 => ?_)
  · skip
    refine j_aload_n dX8_sheetChance_45 rfl rfl ?_
    refine j_getI (ci := 8) (N := 20) (f := 18) (T := TX8) dX8_sheetChance_46 rfl (ht.1 0 (13, 20) rfl) rfl (by decide) fl_X8_83 rfl ?_
    refine j_forget (ls' := [.null, .null, .int x2, .int (z1 * z0), .null, .null, .null, .null]) ⟨Or.inl rfl, Or.inl rfl, Or.inr rfl, Or.inr rfl, Or.inr rfl, Or.inr rfl, Or.inr rfl, Or.inr rfl, trivial⟩ ?_
    exact k0 c0
  · skip
    refine j_bipush 100 dX8_sheetChance_35 rfl (by decide) ?_
    refine j_aload_n dX8_sheetChance_37 rfl rfl ?_
    refine j_getI (ci := 8) (N := 20) (f := 18) (T := TX8) dX8_sheetChance_38 rfl (ht.1 0 (13, 20) rfl) rfl (by decide) fl_X8_83 rfl ?_
    refine j_isub dX8_sheetChance_41 rfl ?_
    refine j_goto 49 dX8_sheetChance_42 (by decide) ?_
    refine j_forget (ls' := [.null, .null, .int x2, .int (z1 * z0), .null, .null, .null, .null]) ⟨Or.inl rfl, Or.inl rfl, Or.inr rfl, Or.inr rfl, Or.inr rfl, Or.inr rfl, Or.inr rfl, Or.inr rfl, trivial⟩ ?_
    exact k1 c0
theorem b_X8_sheetChance_49 {l : Launch} {G : jG} {μ : jM} {φ : Int32 → jM → Prop} {x2 x3 z0 z1 : Int32} (hG : gGG G) (hP : gPP μ) 
    (k0 : (¬ x3 = (0 : Int32)) → (x2 = (0 : Int32)) → J l mX8_sheetChance (jZ0 1 G (pI φ)) G 0 0 82 [.null, .null, .null, .int x3, .null, .int (x3 + (z1 * z0)), .null, .null] [.int x3] μ) 
    (k1 : (¬ x3 = (0 : Int32)) → (¬ (x2 = (0 : Int32))) → J l mX8_sheetChance (jZ0 1 G (pI φ)) G 0 0 82 [.null, .null, .null, .int x3, .null, .int (x3 + (z1 * z0)), .null, .null] [.int (x3 + (z1 * z0))] μ) 
    (k2 : (x3 = (0 : Int32)) → (x2 = (0 : Int32)) → J l mX8_sheetChance (jZ0 1 G (pI φ)) G 0 0 65 [.null, .null, .null, .null, .null, .null, .null, .null] [.int 0] μ) 
    (k3 : (x3 = (0 : Int32)) → (¬ (x2 = (0 : Int32))) → J l mX8_sheetChance (jZ0 1 G (pI φ)) G 0 0 65 [.null, .null, .null, .null, .null, .null, .null, .null] [.int 1] μ) :
    J l mX8_sheetChance (jZ0 1 G (pI φ)) G 0 0 49 [.null, .null, .int x2, .int x3, .null, .null, .null, .null] [.int z0, .int z1] μ := by
  refine j_imul dX8_sheetChance_49 rfl ?_
  refine j_istore (ls' := [.null, .null, .int x2, .int x3, .int (z1 * z0), .null, .null, .null]) dX8_sheetChance_50 rfl (Nat.le_of_ble_eq_true rfl) rfl ?_
  refine j_iload_n dX8_sheetChance_52 rfl rfl ?_
  refine j_if_ne 66 dX8_sheetChance_53 rfl (by decide) (fun c0 => ?_) (fun c0 => ?_)
  · skip
    refine j_iload_n dX8_sheetChance_66 rfl rfl ?_
    refine j_iload dX8_sheetChance_67 rfl rfl ?_
    refine j_iadd dX8_sheetChance_69 rfl ?_
    refine j_istore (ls' := [.null, .null, .int x2, .int x3, .int (z1 * z0), .int (x3 + (z1 * z0)), .null, .null]) dX8_sheetChance_70 rfl (Nat.le_of_ble_eq_true rfl) rfl ?_
    refine j_iload_n dX8_sheetChance_72 rfl rfl ?_
    refine j_if_eq 81 dX8_sheetChance_73 rfl (by decide) (fun c1 => ?_) (fun c1 => ?_)
    · skip
      refine j_iload_n dX8_sheetChance_81 rfl rfl ?_
      refine j_forget (ls' := [.null, .null, .null, .int x3, .null, .int (x3 + (z1 * z0)), .null, .null]) ⟨Or.inr rfl, Or.inr rfl, Or.inl rfl, Or.inr rfl, Or.inl rfl, Or.inr rfl, Or.inr rfl, Or.inr rfl, trivial⟩ ?_
      exact k0 c0 c1
    · skip
      refine j_iload dX8_sheetChance_76 rfl rfl ?_
      refine j_goto 82 dX8_sheetChance_78 (by decide) ?_
      refine j_forget (ls' := [.null, .null, .null, .int x3, .null, .int (x3 + (z1 * z0)), .null, .null]) ⟨Or.inr rfl, Or.inr rfl, Or.inl rfl, Or.inr rfl, Or.inl rfl, Or.inr rfl, Or.inr rfl, Or.inr rfl, trivial⟩ ?_
      exact k1 c0 c1
  · skip
    refine j_iload_n dX8_sheetChance_56 rfl rfl ?_
    refine j_if_eq 64 dX8_sheetChance_57 rfl (by decide) (fun c2 => ?_) (fun c2 => ?_)
    · skip
      refine j_iconst 0 dX8_sheetChance_64 rfl (by decide) ?_
      refine j_forget (ls' := [.null, .null, .null, .null, .null, .null, .null, .null]) ⟨Or.inr rfl, Or.inr rfl, Or.inl rfl, Or.inl rfl, Or.inl rfl, Or.inr rfl, Or.inr rfl, Or.inr rfl, trivial⟩ ?_
      exact k2 c0 c2
    · skip
      refine j_iconst 1 dX8_sheetChance_60 rfl (by decide) ?_
      refine j_goto 65 dX8_sheetChance_61 (by decide) ?_
      refine j_forget (ls' := [.null, .null, .null, .null, .null, .null, .null, .null]) ⟨Or.inr rfl, Or.inr rfl, Or.inl rfl, Or.inl rfl, Or.inl rfl, Or.inr rfl, Or.inr rfl, Or.inr rfl, trivial⟩ ?_
      exact k3 c0 c2
theorem b_X8_sheetChance_65 {l : Launch} {G : jG} {μ : jM} {φ : Int32 → jM → Prop} {z0 : Int32} (hG : gGG G) (hP : gPP μ) 
    (k0 : φ z0 μ) :
    J l mX8_sheetChance (jZ0 1 G (pI φ)) G 0 0 65 [.null, .null, .null, .null, .null, .null, .null, .null] [.int z0] μ := by
  exact j_iret dX8_sheetChance_65 rfl (k0 )
theorem b_X8_sheetChance_82 {l : Launch} {G : jG} {μ : jM} {φ : Int32 → jM → Prop} {x3 x5 z0 : Int32} {ψ0 : Int32 → jM → Prop} (hG : gGG G) (hP : gPP μ) 
    (e0 : jC0 l mX8_greatestShared 0 G [.int x5, .int x3] μ (pI ψ0)) 
    (k0 : ∀ v μ', ψ0 v μ' → J l mX8_sheetChance (jZ0 1 G (pI φ)) G 0 0 90 [.null, .null, .null, .null, .null, .null, .int z0, .null] [.int v] μ') :
    J l mX8_sheetChance (jZ0 1 G (pI φ)) G 0 0 82 [.null, .null, .null, .int x3, .null, .int x5, .null, .null] [.int z0] μ := by
  refine j_istore (ls' := [.null, .null, .null, .int x3, .null, .int x5, .int z0, .null]) dX8_sheetChance_82 rfl (Nat.le_of_ble_eq_true rfl) rfl ?_
  refine j_iload dX8_sheetChance_84 rfl rfl ?_
  refine j_iload_n dX8_sheetChance_86 rfl rfl ?_
  refine j_cS (as := [.int x5, .int x3]) (rest := []) dX8_sheetChance_87 rfl vw_X8_93 ⟨Nat.le_of_ble_eq_true rfl, Nat.le_of_ble_eq_true rfl⟩ rfl rfl (fun _ _ => Nat.le_of_ble_eq_true rfl) (e0 ) (fun r μ' hr => ?_)
  obtain ⟨v, rfl, hr⟩ := hr
  refine j_forget (ls' := [.null, .null, .null, .null, .null, .null, .int z0, .null]) ⟨Or.inr rfl, Or.inr rfl, Or.inr rfl, Or.inl rfl, Or.inr rfl, Or.inl rfl, Or.inr rfl, Or.inr rfl, trivial⟩ ?_
  exact k0  v μ' hr
theorem b_X8_sheetChance_90 {l : Launch} {G : jG} {μ : jM} {φ : Int32 → jM → Prop} {x6 z0 : Int32} (hG : gGG G) (hP : gPP μ) 
    (o0 : (¬ z0 = (0 : Int32)) → ¬ (z0 : Int32) = 0) 
    (k0 : (¬ z0 = (0 : Int32)) → J l mX8_sheetChance (jZ0 1 G (pI φ)) G 0 0 106 [.null, .null, .null, .null, .null, .null, .null, .null] [.int (x6 / z0)] μ) 
    (k1 : (z0 = (0 : Int32)) → J l mX8_sheetChance (jZ0 1 G (pI φ)) G 0 0 106 [.null, .null, .null, .null, .null, .null, .null, .null] [.int 0] μ) :
    J l mX8_sheetChance (jZ0 1 G (pI φ)) G 0 0 90 [.null, .null, .null, .null, .null, .null, .int x6, .null] [.int z0] μ := by
  refine j_istore (ls' := [.null, .null, .null, .null, .null, .null, .int x6, .int z0]) dX8_sheetChance_90 rfl (Nat.le_of_ble_eq_true rfl) rfl ?_
  refine j_iload dX8_sheetChance_92 rfl rfl ?_
  refine j_if_ne 101 dX8_sheetChance_94 rfl (by decide) (fun c0 => ?_) (fun c0 => ?_)
  · skip
    refine j_iload dX8_sheetChance_101 rfl rfl ?_
    refine j_iload dX8_sheetChance_103 rfl rfl ?_
    refine j_idiv dX8_sheetChance_105 rfl (o0 c0) ?_
    refine j_forget (ls' := [.null, .null, .null, .null, .null, .null, .null, .null]) ⟨Or.inr rfl, Or.inr rfl, Or.inr rfl, Or.inr rfl, Or.inr rfl, Or.inr rfl, Or.inl rfl, Or.inl rfl, trivial⟩ ?_
    exact k0 c0
  · skip
    refine j_iconst 0 dX8_sheetChance_97 rfl (by decide) ?_
    refine j_goto 106 dX8_sheetChance_98 (by decide) ?_
    refine j_forget (ls' := [.null, .null, .null, .null, .null, .null, .null, .null]) ⟨Or.inr rfl, Or.inr rfl, Or.inr rfl, Or.inr rfl, Or.inr rfl, Or.inr rfl, Or.inl rfl, Or.inl rfl, trivial⟩ ?_
    exact k1 c0
theorem b_X8_sheetChance_106 {l : Launch} {G : jG} {μ : jM} {φ : Int32 → jM → Prop} {z0 : Int32} (hG : gGG G) (hP : gPP μ) 
    (k0 : φ z0 μ) :
    J l mX8_sheetChance (jZ0 1 G (pI φ)) G 0 0 106 [.null, .null, .null, .null, .null, .null, .null, .null] [.int z0] μ := by
  exact j_iret dX8_sheetChance_106 rfl (k0 )
theorem b_X8_greatestShared_0 {l : Launch} {G : jG} {μ : jM} {φ : Int32 → jM → Prop} {x0 x1 : Int32} (hG : gGG G) (hP : gPP μ) 
    (k0 : J l mX8_greatestShared (jZ0 0 G (pI φ)) G 0 0 7 [.null, .null, .int x0, .int x1, .int 0, .null] [] μ) :
    J l mX8_greatestShared (jZ0 0 G (pI φ)) G 0 0 0 [.int x0, .int x1, .null, .null, .null, .null] [] μ := by
  refine j_iload_n dX8_greatestShared_0 rfl rfl ?_
  refine j_istore_n (ls' := [.int x0, .int x1, .int x0, .null, .null, .null]) dX8_greatestShared_1 rfl rfl (Nat.le_of_ble_eq_true rfl) rfl ?_
  refine j_iload_n dX8_greatestShared_2 rfl rfl ?_
  refine j_istore_n (ls' := [.int x0, .int x1, .int x0, .int x1, .null, .null]) dX8_greatestShared_3 rfl rfl (Nat.le_of_ble_eq_true rfl) rfl ?_
  refine j_iconst 0 dX8_greatestShared_4 rfl (by decide) ?_
  refine j_istore (ls' := [.int x0, .int x1, .int x0, .int x1, .int 0, .null]) dX8_greatestShared_5 rfl (Nat.le_of_ble_eq_true rfl) rfl ?_
  refine j_forget (ls' := [.null, .null, .int x0, .int x1, .int 0, .null]) ⟨Or.inl rfl, Or.inl rfl, Or.inr rfl, Or.inr rfl, Or.inr rfl, Or.inr rfl, trivial⟩ ?_
  exact k0 
theorem b_X8_greatestShared_7 {l : Launch} {G : jG} {μ : jM} {φ : Int32 → jM → Prop} {x2 x3 x4 : Int32} (hG : gGG G) (hP : gPP μ) 
    (k0 : (64 ≤ (x4 : Int32)) → φ x2 μ) 
    (k1 : (¬ (64 ≤ (x4 : Int32))) → (x3 = (0 : Int32)) → φ x2 μ) 
    (o0 : (¬ (64 ≤ (x4 : Int32))) → (¬ (x3 = (0 : Int32))) → ¬ (x3 : Int32) = 0) 
    (k2 : (¬ (64 ≤ (x4 : Int32))) → (¬ (x3 = (0 : Int32))) → J l mX8_greatestShared (jZ0 0 G (pI φ)) G 0 0 7 [.null, .null, .int x3, .int (x2 - x2 / x3 * x3), .int (x4 + 1), .null] [] μ) :
    J l mX8_greatestShared (jZ0 0 G (pI φ)) G 0 0 7 [.null, .null, .int x2, .int x3, .int x4, .null] [] μ := by
  refine j_iload dX8_greatestShared_7 rfl rfl ?_
  refine j_bipush 64 dX8_greatestShared_9 rfl (by decide) ?_
  refine j_icmp_ge 34 dX8_greatestShared_11 rfl (by decide) (fun c0 => ?_) (fun c0 => ?_)
  · skip
    refine j_iload_n dX8_greatestShared_34 rfl rfl ?_
    exact j_iret dX8_greatestShared_35 rfl (k0 c0)
  · skip
    refine j_iload_n dX8_greatestShared_14 rfl rfl ?_
    refine j_if_eq 34 dX8_greatestShared_15 rfl (by decide) (fun c1 => ?_) (fun c1 => ?_)
    · skip
      refine j_iload_n dX8_greatestShared_34 rfl rfl ?_
      exact j_iret dX8_greatestShared_35 rfl (k1 c0 c1)
    · skip
      refine j_iload_n dX8_greatestShared_18 rfl rfl ?_
      refine j_iload_n dX8_greatestShared_19 rfl rfl ?_
      refine j_irem dX8_greatestShared_20 rfl (o0 c0 c1) ?_
      refine j_istore (ls' := [.null, .null, .int x2, .int x3, .int x4, .int (x2 - x2 / x3 * x3)]) dX8_greatestShared_21 rfl (Nat.le_of_ble_eq_true rfl) rfl ?_
      refine j_iload_n dX8_greatestShared_23 rfl rfl ?_
      refine j_istore_n (ls' := [.null, .null, .int x3, .int x3, .int x4, .int (x2 - x2 / x3 * x3)]) dX8_greatestShared_24 rfl rfl (Nat.le_of_ble_eq_true rfl) rfl ?_
      refine j_iload dX8_greatestShared_25 rfl rfl ?_
      refine j_istore_n (ls' := [.null, .null, .int x3, .int (x2 - x2 / x3 * x3), .int x4, .int (x2 - x2 / x3 * x3)]) dX8_greatestShared_27 rfl rfl (Nat.le_of_ble_eq_true rfl) rfl ?_
      refine j_iinc (x4 + 1) (ls' := [.null, .null, .int x3, .int (x2 - x2 / x3 * x3), .int (x4 + 1), .int (x2 - x2 / x3 * x3)]) dX8_greatestShared_28 rfl rfl rfl (Nat.le_of_ble_eq_true rfl) rfl ?_
      refine j_goto 7 dX8_greatestShared_31 (by decide) ?_
      refine j_forget (ls' := [.null, .null, .int x3, .int (x2 - x2 / x3 * x3), .int (x4 + 1), .null]) ⟨Or.inr rfl, Or.inr rfl, Or.inr rfl, Or.inr rfl, Or.inr rfl, Or.inl rfl, trivial⟩ ?_
      exact k2 c0 c1
theorem b_X9_isThere_0 {l : Launch} {G : jG} {μ : jM} {φ : Int32 → jM → Prop} {y : Nat} (hG : gGG G) (hP : gPP μ) (hy : tO gWay pWay G μ y) 
    (k0 : (1000000 ≤ ((μ.1 y 6) : Int32)) → φ 0 μ) 
    (k1 : (¬ (1000000 ≤ ((μ.1 y 6) : Int32))) → φ 1 μ) :
    J l mX9_isThere (jZ0 0 G (pI φ)) G 0 0 0 [.ref y] [] μ := by
  refine j_aload_n dX9_isThere_0 rfl rfl ?_
  refine j_getI (ci := 9) (N := 9) (f := 6) (T := TX9) dX9_isThere_1 rfl (hy.1 0 (14, 9) rfl) rfl (by decide) fl_X9_24 rfl ?_
  refine j_ldc 1000000 dX9_isThere_4 rfl ck_X9_28 ?_
  refine j_icmp_ge 13 dX9_isThere_6 rfl (by decide) (fun c0 => ?_) (fun c0 => ?_)
  · skip
    refine j_iconst 0 dX9_isThere_13 rfl (by decide) ?_
    exact j_zret dX9_isThere_14 rfl (by decide) (k0 c0)
  · skip
    refine j_iconst 1 dX9_isThere_9 rfl (by decide) ?_
    refine j_goto 14 dX9_isThere_10 (by decide) ?_
    exact j_zret dX9_isThere_14 rfl (by decide) (k1 c0)
theorem b_X9_setPrice_0 {l : Launch} {G : jG} {μ : jM} {φ : jM → Prop} {x1 x2 : Int32} {y : Nat} (hG : gGG G) (hP : gPP μ) (hy : tO gWay pWay G μ y) 
    (o0 : vp_in x1 12) 
    (k0 : (x2 < ((μ.1 (y + 1) (Int32.toNatClampNeg x1)) : Int32)) → φ (wI (wI μ y 0 0) (y + 1) (Int32.toNatClampNeg x1) x2)) 
    (k1 : (¬ (x2 < ((μ.1 (y + 1) (Int32.toNatClampNeg x1)) : Int32))) → (x2 ≤ ((μ.1 (y + 1) (Int32.toNatClampNeg x1)) : Int32)) → φ (wI μ (y + 1) (Int32.toNatClampNeg x1) x2)) 
    (k2 : (¬ (x2 < ((μ.1 (y + 1) (Int32.toNatClampNeg x1)) : Int32))) → (¬ (x2 ≤ ((μ.1 (y + 1) (Int32.toNatClampNeg x1)) : Int32))) → ((((μ.1 y 7) >>> (x1 &&& 31)) &&& 1) = (0 : Int32)) → φ (wI μ (y + 1) (Int32.toNatClampNeg x1) x2)) 
    (k3 : (¬ (x2 < ((μ.1 (y + 1) (Int32.toNatClampNeg x1)) : Int32))) → (¬ (x2 ≤ ((μ.1 (y + 1) (Int32.toNatClampNeg x1)) : Int32))) → (¬ ((((μ.1 y 7) >>> (x1 &&& 31)) &&& 1) = (0 : Int32))) → φ (wI (wI μ y 0 0) (y + 1) (Int32.toNatClampNeg x1) x2)) :
    J l mX9_setPrice (jZ0 0 G (pV φ)) G 0 0 0 [.ref y, .int x1, .int x2, .null] [] μ := by
  refine j_aload_n dX9_setPrice_0 rfl rfl ?_
  refine j_getR (ci := 9) (N := 9) (f := 2) (T := TX9) (y + 1) dX9_setPrice_1 rfl (hy.1 0 (14, 9) rfl) rfl (by decide) fl_X9_9 rfl (hy.2 0 2 1 rfl) ?_
  refine j_iload_n dX9_setPrice_4 rfl rfl ?_
  refine j_iald' (j := (Int32.toNatClampNeg x1)) dX9_setPrice_5 rfl (hy.1 1 (0, 12) rfl) o0 rfl ?_
  refine j_istore_n (ls' := [.ref y, .int x1, .int x2, .int (μ.1 (y + 1) (Int32.toNatClampNeg x1))]) dX9_setPrice_6 rfl rfl (Nat.le_of_ble_eq_true rfl) rfl ?_
  refine j_iload_n dX9_setPrice_7 rfl rfl ?_
  refine j_iload_n dX9_setPrice_8 rfl rfl ?_
  refine j_icmp_lt 28 dX9_setPrice_9 rfl (by decide) (fun c0 => ?_) (fun c0 => ?_)
  · skip
    refine j_aload_n dX9_setPrice_28 rfl rfl ?_
    refine j_iconst 0 dX9_setPrice_29 rfl (by decide) ?_
    refine j_putB (ci := 9) (N := 9) (f := 0) (T := TX9) dX9_setPrice_30 rfl (hy.1 0 (14, 9) rfl) rfl (by decide) fl_X9_32 rfl rfl (by decide) ?_
    refine j_aload_n dX9_setPrice_33 rfl rfl ?_
    refine j_getR (ci := 9) (N := 9) (f := 2) (T := TX9) (y + 1) dX9_setPrice_34 rfl (hy.1 0 (14, 9) rfl) rfl (by decide) fl_X9_9 rfl (hy.2 0 2 1 rfl) ?_
    refine j_iload_n dX9_setPrice_37 rfl rfl ?_
    refine j_iload_n dX9_setPrice_38 rfl rfl ?_
    refine j_iast' (j := (Int32.toNatClampNeg x1)) dX9_setPrice_39 rfl (hy.1 1 (0, 12) rfl) o0 rfl ?_
    exact j_vret dX9_setPrice_40 rfl (k0 c0)
  · skip
    refine j_iload_n dX9_setPrice_12 rfl rfl ?_
    refine j_iload_n dX9_setPrice_13 rfl rfl ?_
    refine j_icmp_le 33 dX9_setPrice_14 rfl (by decide) (fun c1 => ?_) (fun c1 => ?_)
    · skip
      refine j_aload_n dX9_setPrice_33 rfl rfl ?_
      refine j_getR (ci := 9) (N := 9) (f := 2) (T := TX9) (y + 1) dX9_setPrice_34 rfl (hy.1 0 (14, 9) rfl) rfl (by decide) fl_X9_9 rfl (hy.2 0 2 1 rfl) ?_
      refine j_iload_n dX9_setPrice_37 rfl rfl ?_
      refine j_iload_n dX9_setPrice_38 rfl rfl ?_
      refine j_iast' (j := (Int32.toNatClampNeg x1)) dX9_setPrice_39 rfl (hy.1 1 (0, 12) rfl) o0 rfl ?_
      exact j_vret dX9_setPrice_40 rfl (k1 c0 c1)
    · skip
      refine j_aload_n dX9_setPrice_17 rfl rfl ?_
      refine j_getI (ci := 9) (N := 9) (f := 7) (T := TX9) dX9_setPrice_18 rfl (hy.1 0 (14, 9) rfl) rfl (by decide) fl_X9_29 rfl ?_
      refine j_iload_n dX9_setPrice_21 rfl rfl ?_
      refine j_ishr dX9_setPrice_22 rfl ?_
      refine j_iconst 1 dX9_setPrice_23 rfl (by decide) ?_
      refine j_iand dX9_setPrice_24 rfl ?_
      refine j_if_eq 33 dX9_setPrice_25 rfl (by decide) (fun c2 => ?_) (fun c2 => ?_)
      · skip
        refine j_aload_n dX9_setPrice_33 rfl rfl ?_
        refine j_getR (ci := 9) (N := 9) (f := 2) (T := TX9) (y + 1) dX9_setPrice_34 rfl (hy.1 0 (14, 9) rfl) rfl (by decide) fl_X9_9 rfl (hy.2 0 2 1 rfl) ?_
        refine j_iload_n dX9_setPrice_37 rfl rfl ?_
        refine j_iload_n dX9_setPrice_38 rfl rfl ?_
        refine j_iast' (j := (Int32.toNatClampNeg x1)) dX9_setPrice_39 rfl (hy.1 1 (0, 12) rfl) o0 rfl ?_
        exact j_vret dX9_setPrice_40 rfl (k2 c0 c1 c2)
      · skip
        refine j_aload_n dX9_setPrice_28 rfl rfl ?_
        refine j_iconst 0 dX9_setPrice_29 rfl (by decide) ?_
        refine j_putB (ci := 9) (N := 9) (f := 0) (T := TX9) dX9_setPrice_30 rfl (hy.1 0 (14, 9) rfl) rfl (by decide) fl_X9_32 rfl rfl (by decide) ?_
        refine j_aload_n dX9_setPrice_33 rfl rfl ?_
        refine j_getR (ci := 9) (N := 9) (f := 2) (T := TX9) (y + 1) dX9_setPrice_34 rfl (hy.1 0 (14, 9) rfl) rfl (by decide) fl_X9_9 rfl (hy.2 0 2 1 rfl) ?_
        refine j_iload_n dX9_setPrice_37 rfl rfl ?_
        refine j_iload_n dX9_setPrice_38 rfl rfl ?_
        refine j_iast' (j := (Int32.toNatClampNeg x1)) dX9_setPrice_39 rfl (hy.1 1 (0, 12) rfl) o0 rfl ?_
        exact j_vret dX9_setPrice_40 rfl (k3 c0 c1 c2)
theorem b_X9_seek_0 {l : Launch} {G : jG} {μ : jM} {φ : jM → Prop} {x2 : Int32} {ψ0 : jM → Prop} {t y : Nat} (hG : gGG G) (hP : gPP μ) (ht : tO gTold pTold G μ t) (hy : tO gWay pWay G μ y) 
    (o0 : vp_in x2 7) 
    (e0 : jC0 l mX9_measure 1 G [.ref y, .ref t, .int ((wI (wI (wI μ y 0 1) y 5 0) y 7 0).1 (t + 5) (Int32.toNatClampNeg x2))] (wI (wI (wI μ y 0 1) y 5 0) y 7 0) (pV ψ0)) 
    (k0 : ∀ μ', ψ0 μ' → J l mX9_seek (jZ0 2 G (pV φ)) G 0 0 37 [.ref y, .ref t, .null, .int ((wI (wI (wI μ y 0 1) y 5 0) y 7 0).1 (t + 4) (Int32.toNatClampNeg x2)), .int ((wI (wI (wI μ y 0 1) y 5 0) y 7 0).1 (t + 5) (Int32.toNatClampNeg x2)), .null, .null] [] μ') :
    J l mX9_seek (jZ0 2 G (pV φ)) G 0 0 0 [.ref y, .ref t, .int x2, .null, .null, .null, .null] [] μ := by
  refine j_aload_n dX9_seek_0 rfl rfl ?_
  refine j_iconst 1 dX9_seek_1 rfl (by decide) ?_
  refine j_putB (ci := 9) (N := 9) (f := 0) (T := TX9) dX9_seek_2 rfl (hy.1 0 (14, 9) rfl) rfl (by decide) fl_X9_32 rfl rfl (by decide) ?_
  refine j_aload_n dX9_seek_5 rfl rfl ?_
  refine j_iconst 0 dX9_seek_6 rfl (by decide) ?_
  refine j_putI (ci := 9) (N := 9) (f := 5) (T := TX9) dX9_seek_7 rfl (hy.1 0 (14, 9) rfl) rfl (by decide) fl_X9_36 rfl rfl ?_
  refine j_aload_n dX9_seek_10 rfl rfl ?_
  refine j_iconst 0 dX9_seek_11 rfl (by decide) ?_
  refine j_putI (ci := 9) (N := 9) (f := 7) (T := TX9) dX9_seek_12 rfl (hy.1 0 (14, 9) rfl) rfl (by decide) fl_X9_29 rfl rfl ?_
  refine j_aload_n dX9_seek_15 rfl rfl ?_
  refine j_getR (ci := 8) (N := 20) (f := 8) (T := TX8) (t + 4) dX9_seek_16 rfl (ht.1 0 (13, 20) rfl) rfl (by decide) fl_X9_39 rfl (ht.2 0 8 4 rfl) ?_
  refine j_iload_n dX9_seek_19 rfl rfl ?_
  refine j_iald' (j := (Int32.toNatClampNeg x2)) dX9_seek_20 rfl (ht.1 4 (0, 7) rfl) o0 rfl ?_
  refine j_istore_n (ls' := [.ref y, .ref t, .int x2, .int ((wI (wI (wI μ y 0 1) y 5 0) y 7 0).1 (t + 4) (Int32.toNatClampNeg x2)), .null, .null, .null]) dX9_seek_21 rfl rfl (Nat.le_of_ble_eq_true rfl) rfl ?_
  refine j_aload_n dX9_seek_22 rfl rfl ?_
  refine j_getR (ci := 8) (N := 20) (f := 9) (T := TX8) (t + 5) dX9_seek_23 rfl (ht.1 0 (13, 20) rfl) rfl (by decide) fl_X9_44 rfl (ht.2 0 9 5 rfl) ?_
  refine j_iload_n dX9_seek_26 rfl rfl ?_
  refine j_iald' (j := (Int32.toNatClampNeg x2)) dX9_seek_27 rfl (ht.1 5 (0, 7) rfl) o0 rfl ?_
  refine j_istore (ls' := [.ref y, .ref t, .int x2, .int ((wI (wI (wI μ y 0 1) y 5 0) y 7 0).1 (t + 4) (Int32.toNatClampNeg x2)), .int ((wI (wI (wI μ y 0 1) y 5 0) y 7 0).1 (t + 5) (Int32.toNatClampNeg x2)), .null, .null]) dX9_seek_28 rfl (Nat.le_of_ble_eq_true rfl) rfl ?_
  refine j_aload_n dX9_seek_30 rfl rfl ?_
  refine j_aload_n dX9_seek_31 rfl rfl ?_
  refine j_iload dX9_seek_32 rfl rfl ?_
  refine j_cV (as := [.ref t, .int ((wI (wI (wI μ y 0 1) y 5 0) y 7 0).1 (t + 5) (Int32.toNatClampNeg x2))]) (rest := []) dX9_seek_34 rfl vw_X9_47 (hy.1 0 (14, 9) rfl) rfl ⟨Nat.le_of_ble_eq_true rfl, Nat.le_of_ble_eq_true rfl⟩ rfl rfl (fun _ _ => Nat.le_of_ble_eq_true rfl) (e0 ) (fun r μ' hr => ?_)
  obtain ⟨rfl, hr⟩ := hr
  refine j_forget (ls' := [.ref y, .ref t, .null, .int ((wI (wI (wI μ y 0 1) y 5 0) y 7 0).1 (t + 4) (Int32.toNatClampNeg x2)), .int ((wI (wI (wI μ y 0 1) y 5 0) y 7 0).1 (t + 5) (Int32.toNatClampNeg x2)), .null, .null]) ⟨Or.inr rfl, Or.inr rfl, Or.inl rfl, Or.inr rfl, Or.inr rfl, Or.inr rfl, Or.inr rfl, trivial⟩ ?_
  exact k0  μ' hr
theorem b_X9_seek_37 {l : Launch} {G : jG} {μ : jM} {φ : jM → Prop} {x3 x4 : Int32} {ψ0 : Int32 → jM → Prop} {t y : Nat} (hG : gGG G) (hP : gPP μ) (ht : tO gTold pTold G μ t) (hy : tO gWay pWay G μ y) 
    (o0 : vp_in x3 8) 
    (e0 : jC0 l mX9_isThere 0 G [.ref y] (wI μ y 6 (μ.1 (y + 4) (Int32.toNatClampNeg x3))) (pI ψ0)) 
    (k0 : ∀ v μ', ψ0 v μ' → J l mX9_seek (jZ0 2 G (pV φ)) G 0 0 51 [.ref y, .ref t, .null, .int x3, .int x4, .null, .null] [.int v] μ') :
    J l mX9_seek (jZ0 2 G (pV φ)) G 0 0 37 [.ref y, .ref t, .null, .int x3, .int x4, .null, .null] [] μ := by
  refine j_aload_n dX9_seek_37 rfl rfl ?_
  refine j_aload_n dX9_seek_38 rfl rfl ?_
  refine j_getR (ci := 9) (N := 9) (f := 8) (T := TX9) (y + 4) dX9_seek_39 rfl (hy.1 0 (14, 9) rfl) rfl (by decide) fl_X9_21 rfl (hy.2 0 8 4 rfl) ?_
  refine j_iload_n dX9_seek_42 rfl rfl ?_
  refine j_iald' (j := (Int32.toNatClampNeg x3)) dX9_seek_43 rfl (hy.1 4 (0, 8) rfl) o0 rfl ?_
  refine j_putI (ci := 9) (N := 9) (f := 6) (T := TX9) dX9_seek_44 rfl (hy.1 0 (14, 9) rfl) rfl (by decide) fl_X9_24 rfl rfl ?_
  refine j_aload_n dX9_seek_47 rfl rfl ?_
  refine j_cV (as := []) (rest := []) dX9_seek_48 rfl vw_X9_51 (hy.1 0 (14, 9) rfl) rfl ⟨Nat.le_of_ble_eq_true rfl, Nat.le_of_ble_eq_true rfl⟩ rfl rfl (fun _ _ => Nat.le_of_ble_eq_true rfl) (e0 ) (fun r μ' hr => ?_)
  obtain ⟨v, rfl, hr⟩ := hr
  exact k0  v μ' hr
theorem b_X9_seek_51 {l : Launch} {G : jG} {μ : jM} {φ : jM → Prop} {x3 x4 z0 : Int32} {t y : Nat} (hG : gGG G) (hP : gPP μ) (ht : tO gTold pTold G μ t) (hy : tO gWay pWay G μ y) 
    (k0 : (¬ z0 = (0 : Int32)) → J l mX9_seek (jZ0 2 G (pV φ)) G 0 0 61 [.ref y, .ref t, .null, .null, .int x4, .int x3, .int 0] [] μ) 
    (k1 : (z0 = (0 : Int32)) → φ μ) :
    J l mX9_seek (jZ0 2 G (pV φ)) G 0 0 51 [.ref y, .ref t, .null, .int x3, .int x4, .null, .null] [.int z0] μ := by
  refine j_if_ne 55 dX9_seek_51 rfl (by decide) (fun c0 => ?_) (fun c0 => ?_)
  · skip
    refine j_iload_n dX9_seek_55 rfl rfl ?_
    refine j_istore (ls' := [.ref y, .ref t, .null, .int x3, .int x4, .int x3, .null]) dX9_seek_56 rfl (Nat.le_of_ble_eq_true rfl) rfl ?_
    refine j_iconst 0 dX9_seek_58 rfl (by decide) ?_
    refine j_istore (ls' := [.ref y, .ref t, .null, .int x3, .int x4, .int x3, .int 0]) dX9_seek_59 rfl (Nat.le_of_ble_eq_true rfl) rfl ?_
    refine j_forget (ls' := [.ref y, .ref t, .null, .null, .int x4, .int x3, .int 0]) ⟨Or.inr rfl, Or.inr rfl, Or.inr rfl, Or.inl rfl, Or.inr rfl, Or.inr rfl, Or.inr rfl, trivial⟩ ?_
    exact k0 c0
  · skip
    exact j_vret dX9_seek_54 rfl (k1 c0)
theorem b_X9_seek_61 {l : Launch} {G : jG} {μ : jM} {φ : jM → Prop} {x4 x5 x6 : Int32} {ψ2 : Int32 → jM → Prop} {t y : Nat} (hG : gGG G) (hP : gPP μ) (ht : tO gTold pTold G μ t) (hy : tO gWay pWay G μ y) 
    (k0 : (8 ≤ (x6 : Int32)) → φ μ) 
    (k1 : (¬ (8 ≤ (x6 : Int32))) → (x5 = (x4 : Int32)) → φ μ) 
    (e2 : (¬ (8 ≤ (x6 : Int32))) → (¬ (x5 = (x4 : Int32))) → jC0 l mX9_stepFrom 0 G [.ref y, .ref t, .int x5] μ (pI ψ2)) 
    (k2 : (¬ (8 ≤ (x6 : Int32))) → (¬ (x5 = (x4 : Int32))) → ∀ v μ', ψ2 v μ' → J l mX9_seek (jZ0 2 G (pV φ)) G 0 0 82 [.ref y, .ref t, .null, .null, .int x4, .null, .int x6] [.int v] μ') :
    J l mX9_seek (jZ0 2 G (pV φ)) G 0 0 61 [.ref y, .ref t, .null, .null, .int x4, .int x5, .int x6] [] μ := by
  refine j_iload dX9_seek_61 rfl rfl ?_
  refine j_bipush 8 dX9_seek_63 rfl (by decide) ?_
  refine j_icmp_ge 90 dX9_seek_65 rfl (by decide) (fun c0 => ?_) (fun c0 => ?_)
  · skip
    exact j_vret dX9_seek_90 rfl (k0 c0)
  · skip
    refine j_iload dX9_seek_68 rfl rfl ?_
    refine j_iload dX9_seek_70 rfl rfl ?_
    refine j_icmp_eq 90 dX9_seek_72 rfl (by decide) (fun c1 => ?_) (fun c1 => ?_)
    · skip
      exact j_vret dX9_seek_90 rfl (k1 c0 c1)
    · skip
      refine j_aload_n dX9_seek_75 rfl rfl ?_
      refine j_aload_n dX9_seek_76 rfl rfl ?_
      refine j_iload dX9_seek_77 rfl rfl ?_
      refine j_cV (as := [.ref t, .int x5]) (rest := []) dX9_seek_79 rfl vw_X9_55 (hy.1 0 (14, 9) rfl) rfl ⟨Nat.le_of_ble_eq_true rfl, Nat.le_of_ble_eq_true rfl⟩ rfl rfl (fun _ _ => Nat.le_of_ble_eq_true rfl) (e2 c0 c1) (fun r μ' hr => ?_)
      obtain ⟨v, rfl, hr⟩ := hr
      refine j_forget (ls' := [.ref y, .ref t, .null, .null, .int x4, .null, .int x6]) ⟨Or.inr rfl, Or.inr rfl, Or.inr rfl, Or.inr rfl, Or.inr rfl, Or.inl rfl, Or.inr rfl, trivial⟩ ?_
      exact k2 c0 c1 v μ' hr
theorem b_X9_seek_82 {l : Launch} {G : jG} {μ : jM} {φ : jM → Prop} {x4 x6 z0 : Int32} {t y : Nat} (hG : gGG G) (hP : gPP μ) (ht : tO gTold pTold G μ t) (hy : tO gWay pWay G μ y) 
    (k0 : J l mX9_seek (jZ0 2 G (pV φ)) G 0 0 61 [.ref y, .ref t, .null, .null, .int x4, .int z0, .int (x6 + 1)] [] μ) :
    J l mX9_seek (jZ0 2 G (pV φ)) G 0 0 82 [.ref y, .ref t, .null, .null, .int x4, .null, .int x6] [.int z0] μ := by
  refine j_istore (ls' := [.ref y, .ref t, .null, .null, .int x4, .int z0, .int x6]) dX9_seek_82 rfl (Nat.le_of_ble_eq_true rfl) rfl ?_
  refine j_iinc (x6 + 1) (ls' := [.ref y, .ref t, .null, .null, .int x4, .int z0, .int (x6 + 1)]) dX9_seek_84 rfl rfl rfl (Nat.le_of_ble_eq_true rfl) rfl ?_
  refine j_goto 61 dX9_seek_87 (by decide) ?_
  exact k0 
theorem b_X9_measure_0 {l : Launch} {G : jG} {μ : jM} {φ : jM → Prop} {x2 : Int32} {ψ0 : jM → Prop} {t y : Nat} (hG : gGG G) (hP : gPP μ) (ht : tO gTold pTold G μ t) (hy : tO gWay pWay G μ y) 
    (e0 : jC0 l mJA_fill_II 0 G [.ref (y + 4), .int 1000000] μ (pV ψ0)) 
    (k0 : ∀ μ', ψ0 μ' → J l mX9_measure (jZ0 1 G (pV φ)) G 0 0 29 [.null, .ref t, .int x2, .ref (y + 4), .ref (y + 1), .ref (t + 1), .ref (t + 2), .null, .null, .null, .null, .null] [] μ') :
    J l mX9_measure (jZ0 1 G (pV φ)) G 0 0 0 [.ref y, .ref t, .int x2, .null, .null, .null, .null, .null, .null, .null, .null, .null] [] μ := by
  refine j_aload_n dX9_measure_0 rfl rfl ?_
  refine j_getR (ci := 9) (N := 9) (f := 8) (T := TX9) (y + 4) dX9_measure_1 rfl (hy.1 0 (14, 9) rfl) rfl (by decide) fl_X9_21 rfl (hy.2 0 8 4 rfl) ?_
  refine j_astore_n (ls' := [.ref y, .ref t, .int x2, .ref (y + 4), .null, .null, .null, .null, .null, .null, .null, .null]) dX9_measure_4 rfl rfl (Nat.le_of_ble_eq_true rfl) rfl ?_
  refine j_aload_n dX9_measure_5 rfl rfl ?_
  refine j_getR (ci := 9) (N := 9) (f := 2) (T := TX9) (y + 1) dX9_measure_6 rfl (hy.1 0 (14, 9) rfl) rfl (by decide) fl_X9_9 rfl (hy.2 0 2 1 rfl) ?_
  refine j_astore (ls' := [.ref y, .ref t, .int x2, .ref (y + 4), .ref (y + 1), .null, .null, .null, .null, .null, .null, .null]) dX9_measure_9 rfl (Nat.le_of_ble_eq_true rfl) rfl ?_
  refine j_aload_n dX9_measure_11 rfl rfl ?_
  refine j_getR (ci := 8) (N := 20) (f := 3) (T := TX8) (t + 1) dX9_measure_12 rfl (ht.1 0 (13, 20) rfl) rfl (by decide) fl_X9_59 rfl (ht.2 0 3 1 rfl) ?_
  refine j_astore (ls' := [.ref y, .ref t, .int x2, .ref (y + 4), .ref (y + 1), .ref (t + 1), .null, .null, .null, .null, .null, .null]) dX9_measure_15 rfl (Nat.le_of_ble_eq_true rfl) rfl ?_
  refine j_aload_n dX9_measure_17 rfl rfl ?_
  refine j_getR (ci := 8) (N := 20) (f := 4) (T := TX8) (t + 2) dX9_measure_18 rfl (ht.1 0 (13, 20) rfl) rfl (by decide) fl_X9_62 rfl (ht.2 0 4 2 rfl) ?_
  refine j_astore (ls' := [.ref y, .ref t, .int x2, .ref (y + 4), .ref (y + 1), .ref (t + 1), .ref (t + 2), .null, .null, .null, .null, .null]) dX9_measure_21 rfl (Nat.le_of_ble_eq_true rfl) rfl ?_
  refine j_aload_n dX9_measure_23 rfl rfl ?_
  refine j_ldc 1000000 dX9_measure_24 rfl ck_X9_28 ?_
  refine j_cS (as := [.ref (y + 4), .int 1000000]) (rest := []) dX9_measure_26 rfl vw_X9_65 ⟨Nat.le_of_ble_eq_true rfl, Nat.le_of_ble_eq_true rfl⟩ rfl rfl (fun _ _ => Nat.le_of_ble_eq_true rfl) (e0 ) (fun r μ' hr => ?_)
  obtain ⟨rfl, hr⟩ := hr
  refine j_forget (ls' := [.null, .ref t, .int x2, .ref (y + 4), .ref (y + 1), .ref (t + 1), .ref (t + 2), .null, .null, .null, .null, .null]) ⟨Or.inl rfl, Or.inr rfl, Or.inr rfl, Or.inr rfl, Or.inr rfl, Or.inr rfl, Or.inr rfl, Or.inr rfl, Or.inr rfl, Or.inr rfl, Or.inr rfl, Or.inr rfl, trivial⟩ ?_
  exact k0  μ' hr
theorem b_X9_measure_29 {l : Launch} {G : jG} {μ : jM} {φ : jM → Prop} {x2 : Int32} {t y : Nat} (hG : gGG G) (hP : gPP μ) (ht : tO gTold pTold G μ t) (hy : tO gWay pWay G μ y) 
    (o0 : vp_in x2 8) 
    (k0 : J l mX9_measure (jZ0 1 G (pV φ)) G 0 0 39 [.null, .ref t, .null, .ref (y + 4), .ref (y + 1), .ref (t + 1), .ref (t + 2), .int 1, .int 0, .null, .null, .null] [] (wI μ (y + 4) (Int32.toNatClampNeg x2) 0)) :
    J l mX9_measure (jZ0 1 G (pV φ)) G 0 0 29 [.null, .ref t, .int x2, .ref (y + 4), .ref (y + 1), .ref (t + 1), .ref (t + 2), .null, .null, .null, .null, .null] [] μ := by
  refine j_aload_n dX9_measure_29 rfl rfl ?_
  refine j_iload_n dX9_measure_30 rfl rfl ?_
  refine j_iconst 0 dX9_measure_31 rfl (by decide) ?_
  refine j_iast' (j := (Int32.toNatClampNeg x2)) dX9_measure_32 rfl (hy.1 4 (0, 8) rfl) o0 rfl ?_
  refine j_iconst 1 dX9_measure_33 rfl (by decide) ?_
  refine j_istore (ls' := [.null, .ref t, .int x2, .ref (y + 4), .ref (y + 1), .ref (t + 1), .ref (t + 2), .int 1, .null, .null, .null, .null]) dX9_measure_34 rfl (Nat.le_of_ble_eq_true rfl) rfl ?_
  refine j_iconst 0 dX9_measure_36 rfl (by decide) ?_
  refine j_istore (ls' := [.null, .ref t, .int x2, .ref (y + 4), .ref (y + 1), .ref (t + 1), .ref (t + 2), .int 1, .int 0, .null, .null, .null]) dX9_measure_37 rfl (Nat.le_of_ble_eq_true rfl) rfl ?_
  refine j_forget (ls' := [.null, .ref t, .null, .ref (y + 4), .ref (y + 1), .ref (t + 1), .ref (t + 2), .int 1, .int 0, .null, .null, .null]) ⟨Or.inr rfl, Or.inr rfl, Or.inl rfl, Or.inr rfl, Or.inr rfl, Or.inr rfl, Or.inr rfl, Or.inr rfl, Or.inr rfl, Or.inr rfl, Or.inr rfl, Or.inr rfl, trivial⟩ ?_
  exact k0 
theorem b_X9_measure_39 {l : Launch} {G : jG} {μ : jM} {φ : jM → Prop} {x7 x8 : Int32} {t y : Nat} (hG : gGG G) (hP : gPP μ) (ht : tO gTold pTold G μ t) (hy : tO gWay pWay G μ y) 
    (k0 : (8 ≤ (x8 : Int32)) → φ μ) 
    (k1 : (¬ (8 ≤ (x8 : Int32))) → (x7 = (0 : Int32)) → φ μ) 
    (k2 : (¬ (8 ≤ (x8 : Int32))) → (¬ (x7 = (0 : Int32))) → J l mX9_measure (jZ0 1 G (pV φ)) G 0 0 62 [.null, .ref t, .null, .ref (y + 4), .ref (y + 1), .ref (t + 1), .ref (t + 2), .int 0, .int x8, .int ((μ.1 t 1) - 1), .null, .null] [] μ) :
    J l mX9_measure (jZ0 1 G (pV φ)) G 0 0 39 [.null, .ref t, .null, .ref (y + 4), .ref (y + 1), .ref (t + 1), .ref (t + 2), .int x7, .int x8, .null, .null, .null] [] μ := by
  refine j_iload dX9_measure_39 rfl rfl ?_
  refine j_bipush 8 dX9_measure_41 rfl (by decide) ?_
  refine j_icmp_ge 162 dX9_measure_43 rfl (by decide) (fun c0 => ?_) (fun c0 => ?_)
  · skip
    exact j_vret dX9_measure_162 rfl (k0 c0)
  · skip
    refine j_iload dX9_measure_46 rfl rfl ?_
    refine j_if_eq 162 dX9_measure_48 rfl (by decide) (fun c1 => ?_) (fun c1 => ?_)
    · skip
      exact j_vret dX9_measure_162 rfl (k1 c0 c1)
    · skip
      refine j_iconst 0 dX9_measure_51 rfl (by decide) ?_
      refine j_istore (ls' := [.null, .ref t, .null, .ref (y + 4), .ref (y + 1), .ref (t + 1), .ref (t + 2), .int 0, .int x8, .null, .null, .null]) dX9_measure_52 rfl (Nat.le_of_ble_eq_true rfl) rfl ?_
      refine j_aload_n dX9_measure_54 rfl rfl ?_
      refine j_getI (ci := 8) (N := 20) (f := 1) (T := TX8) dX9_measure_55 rfl (ht.1 0 (13, 20) rfl) rfl (by decide) fl_X9_71 rfl ?_
      refine j_iconst 1 dX9_measure_58 rfl (by decide) ?_
      refine j_isub dX9_measure_59 rfl ?_
      refine j_istore (ls' := [.null, .ref t, .null, .ref (y + 4), .ref (y + 1), .ref (t + 1), .ref (t + 2), .int 0, .int x8, .int ((μ.1 t 1) - 1), .null, .null]) dX9_measure_60 rfl (Nat.le_of_ble_eq_true rfl) rfl ?_
      exact k2 c0 c1
theorem b_X9_measure_62 {l : Launch} {G : jG} {μ : jM} {φ : jM → Prop} {x7 x8 x9 : Int32} {t y : Nat} (hG : gGG G) (hP : gPP μ) (ht : tO gTold pTold G μ t) (hy : tO gWay pWay G μ y) 
    (k0 : (x9 < (0 : Int32)) → J l mX9_measure (jZ0 1 G (pV φ)) G 0 0 39 [.null, .ref t, .null, .ref (y + 4), .ref (y + 1), .ref (t + 1), .ref (t + 2), .int x7, .int (x8 + 1), .null, .null, .null] [] μ) 
    (o0 : (¬ (x9 < (0 : Int32))) → vp_in x9 12) 
    (o1 : (¬ (x9 < (0 : Int32))) → vp_in (μ.1 (t + 1) (Int32.toNatClampNeg x9)) 8) 
    (o2 : (¬ (x9 < (0 : Int32))) → vp_in (μ.1 (t + 2) (Int32.toNatClampNeg x9)) 8) 
    (k1 : (¬ (x9 < (0 : Int32))) → ((μ.1 (y + 4) (Int32.toNatClampNeg (μ.1 (t + 1) (Int32.toNatClampNeg x9)))) ≤ (((μ.1 (y + 4) (Int32.toNatClampNeg (μ.1 (t + 2) (Int32.toNatClampNeg x9)))) + (μ.1 (y + 1) (Int32.toNatClampNeg x9))) : Int32)) → ((μ.1 (y + 4) (Int32.toNatClampNeg (μ.1 (t + 2) (Int32.toNatClampNeg x9)))) ≤ (((μ.1 (y + 4) (Int32.toNatClampNeg (μ.1 (t + 1) (Int32.toNatClampNeg x9)))) + (μ.1 (y + 1) (Int32.toNatClampNeg x9))) : Int32)) → J l mX9_measure (jZ0 1 G (pV φ)) G 0 0 62 [.null, .ref t, .null, .ref (y + 4), .ref (y + 1), .ref (t + 1), .ref (t + 2), .int x7, .int x8, .int (x9 + (-1)), .null, .null] [] μ) 
    (k2 : (¬ (x9 < (0 : Int32))) → ((μ.1 (y + 4) (Int32.toNatClampNeg (μ.1 (t + 1) (Int32.toNatClampNeg x9)))) ≤ (((μ.1 (y + 4) (Int32.toNatClampNeg (μ.1 (t + 2) (Int32.toNatClampNeg x9)))) + (μ.1 (y + 1) (Int32.toNatClampNeg x9))) : Int32)) → (¬ ((μ.1 (y + 4) (Int32.toNatClampNeg (μ.1 (t + 2) (Int32.toNatClampNeg x9)))) ≤ (((μ.1 (y + 4) (Int32.toNatClampNeg (μ.1 (t + 1) (Int32.toNatClampNeg x9)))) + (μ.1 (y + 1) (Int32.toNatClampNeg x9))) : Int32))) → J l mX9_measure (jZ0 1 G (pV φ)) G 0 0 62 [.null, .ref t, .null, .ref (y + 4), .ref (y + 1), .ref (t + 1), .ref (t + 2), .int 1, .int x8, .int (x9 + (-1)), .null, .null] [] (wI μ (y + 4) (Int32.toNatClampNeg (μ.1 (t + 2) (Int32.toNatClampNeg x9))) ((μ.1 (y + 4) (Int32.toNatClampNeg (μ.1 (t + 1) (Int32.toNatClampNeg x9)))) + (μ.1 (y + 1) (Int32.toNatClampNeg x9))))) 
    (k3 : (¬ (x9 < (0 : Int32))) → (¬ ((μ.1 (y + 4) (Int32.toNatClampNeg (μ.1 (t + 1) (Int32.toNatClampNeg x9)))) ≤ (((μ.1 (y + 4) (Int32.toNatClampNeg (μ.1 (t + 2) (Int32.toNatClampNeg x9)))) + (μ.1 (y + 1) (Int32.toNatClampNeg x9))) : Int32))) → J l mX9_measure (jZ0 1 G (pV φ)) G 0 0 62 [.null, .ref t, .null, .ref (y + 4), .ref (y + 1), .ref (t + 1), .ref (t + 2), .int 1, .int x8, .int (x9 + (-1)), .null, .null] [] (wI μ (y + 4) (Int32.toNatClampNeg (μ.1 (t + 1) (Int32.toNatClampNeg x9))) ((μ.1 (y + 4) (Int32.toNatClampNeg (μ.1 (t + 2) (Int32.toNatClampNeg x9)))) + (μ.1 (y + 1) (Int32.toNatClampNeg x9))))) :
    J l mX9_measure (jZ0 1 G (pV φ)) G 0 0 62 [.null, .ref t, .null, .ref (y + 4), .ref (y + 1), .ref (t + 1), .ref (t + 2), .int x7, .int x8, .int x9, .null, .null] [] μ := by
  refine j_iload dX9_measure_62 rfl rfl ?_
  refine j_if_lt 156 dX9_measure_64 rfl (by decide) (fun c0 => ?_) (fun c0 => ?_)
  · skip
    refine j_iinc (x8 + 1) (ls' := [.null, .ref t, .null, .ref (y + 4), .ref (y + 1), .ref (t + 1), .ref (t + 2), .int x7, .int (x8 + 1), .int x9, .null, .null]) dX9_measure_156 rfl rfl rfl (Nat.le_of_ble_eq_true rfl) rfl ?_
    refine j_goto 39 dX9_measure_159 (by decide) ?_
    refine j_forget (ls' := [.null, .ref t, .null, .ref (y + 4), .ref (y + 1), .ref (t + 1), .ref (t + 2), .int x7, .int (x8 + 1), .null, .null, .null]) ⟨Or.inr rfl, Or.inr rfl, Or.inr rfl, Or.inr rfl, Or.inr rfl, Or.inr rfl, Or.inr rfl, Or.inr rfl, Or.inr rfl, Or.inl rfl, Or.inr rfl, Or.inr rfl, trivial⟩ ?_
    exact k0 c0
  · skip
    refine j_aload_n dX9_measure_67 rfl rfl ?_
    refine j_aload dX9_measure_68 rfl rfl ?_
    refine j_iload dX9_measure_70 rfl rfl ?_
    refine j_iald' (j := (Int32.toNatClampNeg x9)) dX9_measure_72 rfl (ht.1 1 (0, 12) rfl) (o0 c0) rfl ?_
    refine j_iald' (j := (Int32.toNatClampNeg (μ.1 (t + 1) (Int32.toNatClampNeg x9)))) dX9_measure_73 rfl (hy.1 4 (0, 8) rfl) (o1 c0) rfl ?_
    refine j_istore (ls' := [.null, .ref t, .null, .ref (y + 4), .ref (y + 1), .ref (t + 1), .ref (t + 2), .int x7, .int x8, .int x9, .int (μ.1 (y + 4) (Int32.toNatClampNeg (μ.1 (t + 1) (Int32.toNatClampNeg x9)))), .null]) dX9_measure_74 rfl (Nat.le_of_ble_eq_true rfl) rfl ?_
    refine j_aload_n dX9_measure_76 rfl rfl ?_
    refine j_aload dX9_measure_77 rfl rfl ?_
    refine j_iload dX9_measure_79 rfl rfl ?_
    refine j_iald' (j := (Int32.toNatClampNeg x9)) dX9_measure_81 rfl (ht.1 2 (0, 12) rfl) (o0 c0) rfl ?_
    refine j_iald' (j := (Int32.toNatClampNeg (μ.1 (t + 2) (Int32.toNatClampNeg x9)))) dX9_measure_82 rfl (hy.1 4 (0, 8) rfl) (o2 c0) rfl ?_
    refine j_istore (ls' := [.null, .ref t, .null, .ref (y + 4), .ref (y + 1), .ref (t + 1), .ref (t + 2), .int x7, .int x8, .int x9, .int (μ.1 (y + 4) (Int32.toNatClampNeg (μ.1 (t + 1) (Int32.toNatClampNeg x9)))), .int (μ.1 (y + 4) (Int32.toNatClampNeg (μ.1 (t + 2) (Int32.toNatClampNeg x9))))]) dX9_measure_83 rfl (Nat.le_of_ble_eq_true rfl) rfl ?_
    refine j_iload dX9_measure_85 rfl rfl ?_
    refine j_aload dX9_measure_87 rfl rfl ?_
    refine j_iload dX9_measure_89 rfl rfl ?_
    refine j_iald' (j := (Int32.toNatClampNeg x9)) dX9_measure_91 rfl (hy.1 1 (0, 12) rfl) (o0 c0) rfl ?_
    refine j_iadd dX9_measure_92 rfl ?_
    refine j_iload dX9_measure_93 rfl rfl ?_
    refine j_icmp_ge 119 dX9_measure_95 rfl (by decide) (fun c1 => ?_) (fun c1 => ?_)
    · skip
      refine j_iload dX9_measure_119 rfl rfl ?_
      refine j_aload dX9_measure_121 rfl rfl ?_
      refine j_iload dX9_measure_123 rfl rfl ?_
      refine j_iald' (j := (Int32.toNatClampNeg x9)) dX9_measure_125 rfl (hy.1 1 (0, 12) rfl) (o0 c0) rfl ?_
      refine j_iadd dX9_measure_126 rfl ?_
      refine j_iload dX9_measure_127 rfl rfl ?_
      refine j_icmp_ge 150 dX9_measure_129 rfl (by decide) (fun c2 => ?_) (fun c2 => ?_)
      · skip
        refine j_iinc (x9 + (-1)) (ls' := [.null, .ref t, .null, .ref (y + 4), .ref (y + 1), .ref (t + 1), .ref (t + 2), .int x7, .int x8, .int (x9 + (-1)), .int (μ.1 (y + 4) (Int32.toNatClampNeg (μ.1 (t + 1) (Int32.toNatClampNeg x9)))), .int (μ.1 (y + 4) (Int32.toNatClampNeg (μ.1 (t + 2) (Int32.toNatClampNeg x9))))]) dX9_measure_150 rfl rfl rfl (Nat.le_of_ble_eq_true rfl) rfl ?_
        refine j_goto 62 dX9_measure_153 (by decide) ?_
        refine j_forget (ls' := [.null, .ref t, .null, .ref (y + 4), .ref (y + 1), .ref (t + 1), .ref (t + 2), .int x7, .int x8, .int (x9 + (-1)), .null, .null]) ⟨Or.inr rfl, Or.inr rfl, Or.inr rfl, Or.inr rfl, Or.inr rfl, Or.inr rfl, Or.inr rfl, Or.inr rfl, Or.inr rfl, Or.inr rfl, Or.inl rfl, Or.inl rfl, trivial⟩ ?_
        exact k1 c0 c1 c2
      · skip
        refine j_aload_n dX9_measure_132 rfl rfl ?_
        refine j_aload dX9_measure_133 rfl rfl ?_
        refine j_iload dX9_measure_135 rfl rfl ?_
        refine j_iald' (j := (Int32.toNatClampNeg x9)) dX9_measure_137 rfl (ht.1 2 (0, 12) rfl) (o0 c0) rfl ?_
        refine j_iload dX9_measure_138 rfl rfl ?_
        refine j_aload dX9_measure_140 rfl rfl ?_
        refine j_iload dX9_measure_142 rfl rfl ?_
        refine j_iald' (j := (Int32.toNatClampNeg x9)) dX9_measure_144 rfl (hy.1 1 (0, 12) rfl) (o0 c0) rfl ?_
        refine j_iadd dX9_measure_145 rfl ?_
        refine j_iast' (j := (Int32.toNatClampNeg (μ.1 (t + 2) (Int32.toNatClampNeg x9)))) dX9_measure_146 rfl (hy.1 4 (0, 8) rfl) (o2 c0) rfl ?_
        refine j_iconst 1 dX9_measure_147 rfl (by decide) ?_
        refine j_istore (ls' := [.null, .ref t, .null, .ref (y + 4), .ref (y + 1), .ref (t + 1), .ref (t + 2), .int 1, .int x8, .int x9, .int (μ.1 (y + 4) (Int32.toNatClampNeg (μ.1 (t + 1) (Int32.toNatClampNeg x9)))), .int (μ.1 (y + 4) (Int32.toNatClampNeg (μ.1 (t + 2) (Int32.toNatClampNeg x9))))]) dX9_measure_148 rfl (Nat.le_of_ble_eq_true rfl) rfl ?_
        refine j_iinc (x9 + (-1)) (ls' := [.null, .ref t, .null, .ref (y + 4), .ref (y + 1), .ref (t + 1), .ref (t + 2), .int 1, .int x8, .int (x9 + (-1)), .int (μ.1 (y + 4) (Int32.toNatClampNeg (μ.1 (t + 1) (Int32.toNatClampNeg x9)))), .int (μ.1 (y + 4) (Int32.toNatClampNeg (μ.1 (t + 2) (Int32.toNatClampNeg x9))))]) dX9_measure_150 rfl rfl rfl (Nat.le_of_ble_eq_true rfl) rfl ?_
        refine j_goto 62 dX9_measure_153 (by decide) ?_
        refine j_forget (ls' := [.null, .ref t, .null, .ref (y + 4), .ref (y + 1), .ref (t + 1), .ref (t + 2), .int 1, .int x8, .int (x9 + (-1)), .null, .null]) ⟨Or.inr rfl, Or.inr rfl, Or.inr rfl, Or.inr rfl, Or.inr rfl, Or.inr rfl, Or.inr rfl, Or.inr rfl, Or.inr rfl, Or.inr rfl, Or.inl rfl, Or.inl rfl, trivial⟩ ?_
        exact k2 c0 c1 c2
    · skip
      refine j_aload_n dX9_measure_98 rfl rfl ?_
      refine j_aload dX9_measure_99 rfl rfl ?_
      refine j_iload dX9_measure_101 rfl rfl ?_
      refine j_iald' (j := (Int32.toNatClampNeg x9)) dX9_measure_103 rfl (ht.1 1 (0, 12) rfl) (o0 c0) rfl ?_
      refine j_iload dX9_measure_104 rfl rfl ?_
      refine j_aload dX9_measure_106 rfl rfl ?_
      refine j_iload dX9_measure_108 rfl rfl ?_
      refine j_iald' (j := (Int32.toNatClampNeg x9)) dX9_measure_110 rfl (hy.1 1 (0, 12) rfl) (o0 c0) rfl ?_
      refine j_iadd dX9_measure_111 rfl ?_
      refine j_iast' (j := (Int32.toNatClampNeg (μ.1 (t + 1) (Int32.toNatClampNeg x9)))) dX9_measure_112 rfl (hy.1 4 (0, 8) rfl) (o1 c0) rfl ?_
      refine j_iconst 1 dX9_measure_113 rfl (by decide) ?_
      refine j_istore (ls' := [.null, .ref t, .null, .ref (y + 4), .ref (y + 1), .ref (t + 1), .ref (t + 2), .int 1, .int x8, .int x9, .int (μ.1 (y + 4) (Int32.toNatClampNeg (μ.1 (t + 1) (Int32.toNatClampNeg x9)))), .int (μ.1 (y + 4) (Int32.toNatClampNeg (μ.1 (t + 2) (Int32.toNatClampNeg x9))))]) dX9_measure_114 rfl (Nat.le_of_ble_eq_true rfl) rfl ?_
      refine j_goto 150 dX9_measure_116 (by decide) ?_
      refine j_iinc (x9 + (-1)) (ls' := [.null, .ref t, .null, .ref (y + 4), .ref (y + 1), .ref (t + 1), .ref (t + 2), .int 1, .int x8, .int (x9 + (-1)), .int (μ.1 (y + 4) (Int32.toNatClampNeg (μ.1 (t + 1) (Int32.toNatClampNeg x9)))), .int (μ.1 (y + 4) (Int32.toNatClampNeg (μ.1 (t + 2) (Int32.toNatClampNeg x9))))]) dX9_measure_150 rfl rfl rfl (Nat.le_of_ble_eq_true rfl) rfl ?_
      refine j_goto 62 dX9_measure_153 (by decide) ?_
      refine j_forget (ls' := [.null, .ref t, .null, .ref (y + 4), .ref (y + 1), .ref (t + 1), .ref (t + 2), .int 1, .int x8, .int (x9 + (-1)), .null, .null]) ⟨Or.inr rfl, Or.inr rfl, Or.inr rfl, Or.inr rfl, Or.inr rfl, Or.inr rfl, Or.inr rfl, Or.inr rfl, Or.inr rfl, Or.inr rfl, Or.inl rfl, Or.inl rfl, trivial⟩ ?_
      exact k3 c0 c1
theorem b_X9_stepFrom_0 {l : Launch} {G : jG} {μ : jM} {φ : Int32 → jM → Prop} {x2 : Int32} {t y : Nat} (hG : gGG G) (hP : gPP μ) (ht : tO gTold pTold G μ t) (hy : tO gWay pWay G μ y) 
    (k0 : J l mX9_stepFrom (jZ0 0 G (pI φ)) G 0 0 2 [.ref y, .ref t, .int x2, .int 0, .null] [] μ) :
    J l mX9_stepFrom (jZ0 0 G (pI φ)) G 0 0 0 [.ref y, .ref t, .int x2, .null, .null] [] μ := by
  refine j_iconst 0 dX9_stepFrom_0 rfl (by decide) ?_
  refine j_istore_n (ls' := [.ref y, .ref t, .int x2, .int 0, .null]) dX9_stepFrom_1 rfl rfl (Nat.le_of_ble_eq_true rfl) rfl ?_
  exact k0 
theorem b_X9_stepFrom_2 {l : Launch} {G : jG} {μ : jM} {φ : Int32 → jM → Prop} {x2 x3 : Int32} {t y : Nat} (hG : gGG G) (hP : gPP μ) (ht : tO gTold pTold G μ t) (hy : tO gWay pWay G μ y) 
    (k0 : ((μ.1 t 1) ≤ (x3 : Int32)) → φ x2 μ) 
    (o0 : (¬ ((μ.1 t 1) ≤ (x3 : Int32))) → vp_in x3 12) 
    (k1 : (¬ ((μ.1 t 1) ≤ (x3 : Int32))) → (¬ (μ.1 (t + 1) (Int32.toNatClampNeg x3)) = (x2 : Int32)) → (¬ (μ.1 (t + 2) (Int32.toNatClampNeg x3)) = (x2 : Int32)) → J l mX9_stepFrom (jZ0 0 G (pI φ)) G 0 0 49 [.ref y, .ref t, .int x2, .int x3, .null] [.int (-1)] μ) 
    (k2 : (¬ ((μ.1 t 1) ≤ (x3 : Int32))) → (¬ (μ.1 (t + 1) (Int32.toNatClampNeg x3)) = (x2 : Int32)) → ((μ.1 (t + 2) (Int32.toNatClampNeg x3)) = (x2 : Int32)) → J l mX9_stepFrom (jZ0 0 G (pI φ)) G 0 0 49 [.ref y, .ref t, .int x2, .int x3, .null] [.int (μ.1 (t + 1) (Int32.toNatClampNeg x3))] μ) 
    (k3 : (¬ ((μ.1 t 1) ≤ (x3 : Int32))) → ((μ.1 (t + 1) (Int32.toNatClampNeg x3)) = (x2 : Int32)) → J l mX9_stepFrom (jZ0 0 G (pI φ)) G 0 0 49 [.ref y, .ref t, .int x2, .int x3, .null] [.int (μ.1 (t + 2) (Int32.toNatClampNeg x3))] μ) :
    J l mX9_stepFrom (jZ0 0 G (pI φ)) G 0 0 2 [.ref y, .ref t, .int x2, .int x3, .null] [] μ := by
  refine j_iload_n dX9_stepFrom_2 rfl rfl ?_
  refine j_aload_n dX9_stepFrom_3 rfl rfl ?_
  refine j_getI (ci := 8) (N := 20) (f := 1) (T := TX8) dX9_stepFrom_4 rfl (ht.1 0 (13, 20) rfl) rfl (by decide) fl_X9_71 rfl ?_
  refine j_icmp_ge 121 dX9_stepFrom_7 rfl (by decide) (fun c0 => ?_) (fun c0 => ?_)
  · skip
    refine j_iload_n dX9_stepFrom_121 rfl rfl ?_
    exact j_iret dX9_stepFrom_122 rfl (k0 c0)
  · skip
    refine j_aload_n dX9_stepFrom_10 rfl rfl ?_
    refine j_getR (ci := 8) (N := 20) (f := 3) (T := TX8) (t + 1) dX9_stepFrom_11 rfl (ht.1 0 (13, 20) rfl) rfl (by decide) fl_X9_59 rfl (ht.2 0 3 1 rfl) ?_
    refine j_iload_n dX9_stepFrom_14 rfl rfl ?_
    refine j_iald' (j := (Int32.toNatClampNeg x3)) dX9_stepFrom_15 rfl (ht.1 1 (0, 12) rfl) (o0 c0) rfl ?_
    refine j_iload_n dX9_stepFrom_16 rfl rfl ?_
    refine j_icmp_ne 29 dX9_stepFrom_17 rfl (by decide) (fun c1 => ?_) (fun c1 => ?_)
    · skip
      refine j_aload_n dX9_stepFrom_29 rfl rfl ?_
      refine j_getR (ci := 8) (N := 20) (f := 4) (T := TX8) (t + 2) dX9_stepFrom_30 rfl (ht.1 0 (13, 20) rfl) rfl (by decide) fl_X9_62 rfl (ht.2 0 4 2 rfl) ?_
      refine j_iload_n dX9_stepFrom_33 rfl rfl ?_
      refine j_iald' (j := (Int32.toNatClampNeg x3)) dX9_stepFrom_34 rfl (ht.1 2 (0, 12) rfl) (o0 c0) rfl ?_
      refine j_iload_n dX9_stepFrom_35 rfl rfl ?_
      refine j_icmp_ne 48 dX9_stepFrom_36 rfl (by decide) (fun c2 => ?_) (fun c2 => ?_)
      · skip
        refine j_iconst (-1) dX9_stepFrom_48 rfl (by decide) ?_
        exact k1 c0 c1 c2
      · skip
        refine j_aload_n dX9_stepFrom_39 rfl rfl ?_
        refine j_getR (ci := 8) (N := 20) (f := 3) (T := TX8) (t + 1) dX9_stepFrom_40 rfl (ht.1 0 (13, 20) rfl) rfl (by decide) fl_X9_59 rfl (ht.2 0 3 1 rfl) ?_
        refine j_iload_n dX9_stepFrom_43 rfl rfl ?_
        refine j_iald' (j := (Int32.toNatClampNeg x3)) dX9_stepFrom_44 rfl (ht.1 1 (0, 12) rfl) (o0 c0) rfl ?_
        refine j_goto 49 dX9_stepFrom_45 (by decide) ?_
        exact k2 c0 c1 c2
    · skip
      refine j_aload_n dX9_stepFrom_20 rfl rfl ?_
      refine j_getR (ci := 8) (N := 20) (f := 4) (T := TX8) (t + 2) dX9_stepFrom_21 rfl (ht.1 0 (13, 20) rfl) rfl (by decide) fl_X9_62 rfl (ht.2 0 4 2 rfl) ?_
      refine j_iload_n dX9_stepFrom_24 rfl rfl ?_
      refine j_iald' (j := (Int32.toNatClampNeg x3)) dX9_stepFrom_25 rfl (ht.1 2 (0, 12) rfl) (o0 c0) rfl ?_
      refine j_goto 49 dX9_stepFrom_26 (by decide) ?_
      exact k3 c0 c1
theorem b_X9_stepFrom_49 {l : Launch} {G : jG} {μ : jM} {φ : Int32 → jM → Prop} {x2 x3 z0 : Int32} {t y : Nat} (hG : gGG G) (hP : gPP μ) (ht : tO gTold pTold G μ t) (hy : tO gWay pWay G μ y) 
    (k0 : (z0 = ((-1) : Int32)) → J l mX9_stepFrom (jZ0 0 G (pI φ)) G 0 0 115 [.ref y, .ref t, .int x2, .int x3, .null] [] μ) 
    (o0 : (¬ (z0 = ((-1) : Int32))) → vp_in z0 8) 
    (o1 : (¬ (z0 = ((-1) : Int32))) → vp_in x3 12) 
    (o2 : (¬ (z0 = ((-1) : Int32))) → vp_in x2 8) 
    (k1 : (¬ (z0 = ((-1) : Int32))) → (¬ ((μ.1 (y + 4) (Int32.toNatClampNeg z0)) + (μ.1 (y + 1) (Int32.toNatClampNeg x3))) = ((μ.1 (y + 4) (Int32.toNatClampNeg x2)) : Int32)) → J l mX9_stepFrom (jZ0 0 G (pI φ)) G 0 0 115 [.ref y, .ref t, .int x2, .int x3, .null] [] μ) 
    (o3 : (¬ (z0 = ((-1) : Int32))) → (((μ.1 (y + 4) (Int32.toNatClampNeg z0)) + (μ.1 (y + 1) (Int32.toNatClampNeg x3))) = ((μ.1 (y + 4) (Int32.toNatClampNeg x2)) : Int32)) → vp_in (μ.1 y 5) 8) 
    (k2 : (¬ (z0 = ((-1) : Int32))) → (((μ.1 (y + 4) (Int32.toNatClampNeg z0)) + (μ.1 (y + 1) (Int32.toNatClampNeg x3))) = ((μ.1 (y + 4) (Int32.toNatClampNeg x2)) : Int32)) → φ z0 (wI (wI (wI μ (y + 3) (Int32.toNatClampNeg (μ.1 y 5)) x3) y 5 (((wI μ (y + 3) (Int32.toNatClampNeg (μ.1 y 5)) x3).1 y 5) + 1)) y 7 (((wI (wI μ (y + 3) (Int32.toNatClampNeg (μ.1 y 5)) x3) y 5 (((wI μ (y + 3) (Int32.toNatClampNeg (μ.1 y 5)) x3).1 y 5) + 1)).1 y 7) ||| (1 <<< (x3 &&& 31))))) :
    J l mX9_stepFrom (jZ0 0 G (pI φ)) G 0 0 49 [.ref y, .ref t, .int x2, .int x3, .null] [.int z0] μ := by
  refine j_istore (ls' := [.ref y, .ref t, .int x2, .int x3, .int z0]) dX9_stepFrom_49 rfl (Nat.le_of_ble_eq_true rfl) rfl ?_
  refine j_iload dX9_stepFrom_51 rfl rfl ?_
  refine j_iconst (-1) dX9_stepFrom_53 rfl (by decide) ?_
  refine j_icmp_eq 115 dX9_stepFrom_54 rfl (by decide) (fun c0 => ?_) (fun c0 => ?_)
  · skip
    refine j_forget (ls' := [.ref y, .ref t, .int x2, .int x3, .null]) ⟨Or.inr rfl, Or.inr rfl, Or.inr rfl, Or.inr rfl, Or.inl rfl, trivial⟩ ?_
    exact k0 c0
  · skip
    refine j_aload_n dX9_stepFrom_57 rfl rfl ?_
    refine j_getR (ci := 9) (N := 9) (f := 8) (T := TX9) (y + 4) dX9_stepFrom_58 rfl (hy.1 0 (14, 9) rfl) rfl (by decide) fl_X9_21 rfl (hy.2 0 8 4 rfl) ?_
    refine j_iload dX9_stepFrom_61 rfl rfl ?_
    refine j_iald' (j := (Int32.toNatClampNeg z0)) dX9_stepFrom_63 rfl (hy.1 4 (0, 8) rfl) (o0 c0) rfl ?_
    refine j_aload_n dX9_stepFrom_64 rfl rfl ?_
    refine j_getR (ci := 9) (N := 9) (f := 2) (T := TX9) (y + 1) dX9_stepFrom_65 rfl (hy.1 0 (14, 9) rfl) rfl (by decide) fl_X9_9 rfl (hy.2 0 2 1 rfl) ?_
    refine j_iload_n dX9_stepFrom_68 rfl rfl ?_
    refine j_iald' (j := (Int32.toNatClampNeg x3)) dX9_stepFrom_69 rfl (hy.1 1 (0, 12) rfl) (o1 c0) rfl ?_
    refine j_iadd dX9_stepFrom_70 rfl ?_
    refine j_aload_n dX9_stepFrom_71 rfl rfl ?_
    refine j_getR (ci := 9) (N := 9) (f := 8) (T := TX9) (y + 4) dX9_stepFrom_72 rfl (hy.1 0 (14, 9) rfl) rfl (by decide) fl_X9_21 rfl (hy.2 0 8 4 rfl) ?_
    refine j_iload_n dX9_stepFrom_75 rfl rfl ?_
    refine j_iald' (j := (Int32.toNatClampNeg x2)) dX9_stepFrom_76 rfl (hy.1 4 (0, 8) rfl) (o2 c0) rfl ?_
    refine j_icmp_ne 115 dX9_stepFrom_77 rfl (by decide) (fun c1 => ?_) (fun c1 => ?_)
    · skip
      refine j_forget (ls' := [.ref y, .ref t, .int x2, .int x3, .null]) ⟨Or.inr rfl, Or.inr rfl, Or.inr rfl, Or.inr rfl, Or.inl rfl, trivial⟩ ?_
      exact k1 c0 c1
    · skip
      refine j_aload_n dX9_stepFrom_80 rfl rfl ?_
      refine j_getR (ci := 9) (N := 9) (f := 4) (T := TX9) (y + 3) dX9_stepFrom_81 rfl (hy.1 0 (14, 9) rfl) rfl (by decide) fl_X9_18 rfl (hy.2 0 4 3 rfl) ?_
      refine j_aload_n dX9_stepFrom_84 rfl rfl ?_
      refine j_getI (ci := 9) (N := 9) (f := 5) (T := TX9) dX9_stepFrom_85 rfl (hy.1 0 (14, 9) rfl) rfl (by decide) fl_X9_36 rfl ?_
      refine j_iload_n dX9_stepFrom_88 rfl rfl ?_
      refine j_iast' (j := (Int32.toNatClampNeg (μ.1 y 5))) dX9_stepFrom_89 rfl (hy.1 3 (0, 8) rfl) (o3 c0 c1) rfl ?_
      refine j_aload_n dX9_stepFrom_90 rfl rfl ?_
      refine j_dup dX9_stepFrom_91 rfl (fun _ _ => rfl) ?_
      refine j_getI (ci := 9) (N := 9) (f := 5) (T := TX9) dX9_stepFrom_92 rfl (hy.1 0 (14, 9) rfl) rfl (by decide) fl_X9_36 rfl ?_
      refine j_iconst 1 dX9_stepFrom_95 rfl (by decide) ?_
      refine j_iadd dX9_stepFrom_96 rfl ?_
      refine j_putI (ci := 9) (N := 9) (f := 5) (T := TX9) dX9_stepFrom_97 rfl (hy.1 0 (14, 9) rfl) rfl (by decide) fl_X9_36 rfl rfl ?_
      refine j_aload_n dX9_stepFrom_100 rfl rfl ?_
      refine j_dup dX9_stepFrom_101 rfl (fun _ _ => rfl) ?_
      refine j_getI (ci := 9) (N := 9) (f := 7) (T := TX9) dX9_stepFrom_102 rfl (hy.1 0 (14, 9) rfl) rfl (by decide) fl_X9_29 rfl ?_
      refine j_iconst 1 dX9_stepFrom_105 rfl (by decide) ?_
      refine j_iload_n dX9_stepFrom_106 rfl rfl ?_
      refine j_ishl dX9_stepFrom_107 rfl ?_
      refine j_ior dX9_stepFrom_108 rfl ?_
      refine j_putI (ci := 9) (N := 9) (f := 7) (T := TX9) dX9_stepFrom_109 rfl (hy.1 0 (14, 9) rfl) rfl (by decide) fl_X9_29 rfl rfl ?_
      refine j_iload dX9_stepFrom_112 rfl rfl ?_
      exact j_iret dX9_stepFrom_114 rfl (k2 c0 c1)
theorem b_X9_stepFrom_115 {l : Launch} {G : jG} {μ : jM} {φ : Int32 → jM → Prop} {x2 x3 : Int32} {t y : Nat} (hG : gGG G) (hP : gPP μ) (ht : tO gTold pTold G μ t) (hy : tO gWay pWay G μ y) 
    (k0 : J l mX9_stepFrom (jZ0 0 G (pI φ)) G 0 0 2 [.ref y, .ref t, .int x2, .int (x3 + 1), .null] [] μ) :
    J l mX9_stepFrom (jZ0 0 G (pI φ)) G 0 0 115 [.ref y, .ref t, .int x2, .int x3, .null] [] μ := by
  refine j_iinc (x3 + 1) (ls' := [.ref y, .ref t, .int x2, .int (x3 + 1), .null]) dX9_stepFrom_115 rfl rfl rfl (Nat.le_of_ble_eq_true rfl) rfl ?_
  refine j_goto 2 dX9_stepFrom_118 (by decide) ?_
  exact k0 
