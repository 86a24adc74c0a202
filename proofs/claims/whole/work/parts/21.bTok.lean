theorem b_X7_scan_0 {l : Launch} {G : jG} {μ : jM} {φ : jM → Prop} (hG : gGG G) (hP : gPP μ) 
    (k0 : J l mX7_scan (jZ0 3 G (pV φ)) G 0 0 7 [.ref 4, .ref 1, .int 0, .int 1, .int 0] [] μ) :
    J l mX7_scan (jZ0 3 G (pV φ)) G 0 0 0 [.ref 4, .ref 1, .null, .null, .null] [] μ := by
  refine j_iconst 0 dX7_scan_0 rfl (by decide) ?_
  refine j_istore_n (ls' := [.ref 4, .ref 1, .int 0, .null, .null]) dX7_scan_1 rfl rfl (Nat.le_of_ble_eq_true rfl) rfl ?_
  refine j_iconst 1 dX7_scan_2 rfl (by decide) ?_
  refine j_istore_n (ls' := [.ref 4, .ref 1, .int 0, .int 1, .null]) dX7_scan_3 rfl rfl (Nat.le_of_ble_eq_true rfl) rfl ?_
  refine j_iconst 0 dX7_scan_4 rfl (by decide) ?_
  refine j_istore (ls' := [.ref 4, .ref 1, .int 0, .int 1, .int 0]) dX7_scan_5 rfl (Nat.le_of_ble_eq_true rfl) rfl ?_
  exact k0 
theorem b_X7_scan_7 {l : Launch} {G : jG} {μ : jM} {φ : jM → Prop} {x2 x3 x4 : Int32} {ψ2 : Int32 → jM → Prop} (hG : gGG G) (hP : gPP μ) 
    (k0 : (401 ≤ (x4 : Int32)) → φ μ) 
    (k1 : (¬ (401 ≤ (x4 : Int32))) → (x3 = (0 : Int32)) → φ μ) 
    (e2 : (¬ (401 ≤ (x4 : Int32))) → (¬ (x3 = (0 : Int32))) → jC0 l mX7_afterBlanks 1 G [.ref 1, .int x2] μ (pI ψ2)) 
    (k2 : (¬ (401 ≤ (x4 : Int32))) → (¬ (x3 = (0 : Int32))) → ∀ v μ', ψ2 v μ' → J l mX7_scan (jZ0 3 G (pV φ)) G 0 0 26 [.ref 4, .ref 1, .null, .null, .int x4] [.int v, .ref 1, .ref 4] μ') :
    J l mX7_scan (jZ0 3 G (pV φ)) G 0 0 7 [.ref 4, .ref 1, .int x2, .int x3, .int x4] [] μ := by
  refine j_iload dX7_scan_7 rfl rfl ?_
  refine j_sipush 401 dX7_scan_9 rfl (by decide) ?_
  refine j_icmp_ge 65 dX7_scan_12 rfl (by decide) (fun c0 => ?_) (fun c0 => ?_)
  · skip
    exact j_vret dX7_scan_65 rfl (k0 c0)
  · skip
    refine j_iload_n dX7_scan_15 rfl rfl ?_
    refine j_if_eq 65 dX7_scan_16 rfl (by decide) (fun c1 => ?_) (fun c1 => ?_)
    · skip
      exact j_vret dX7_scan_65 rfl (k1 c0 c1)
    · skip
      refine j_aload_n dX7_scan_19 rfl rfl ?_
      refine j_aload_n dX7_scan_20 rfl rfl ?_
      refine j_aload_n dX7_scan_21 rfl rfl ?_
      refine j_iload_n dX7_scan_22 rfl rfl ?_
      refine j_cS (as := [.ref 1, .int x2]) (rest := [.ref 1, .ref 4]) dX7_scan_23 rfl vw_X7_41 ⟨Nat.le_of_ble_eq_true rfl, Nat.le_of_ble_eq_true rfl⟩ rfl rfl (fun _ _ => Nat.le_of_ble_eq_true rfl) (e2 c0 c1) (fun r μ' hr => ?_)
      obtain ⟨v, rfl, hr⟩ := hr
      refine j_forget (ls' := [.ref 4, .ref 1, .null, .null, .int x4]) ⟨Or.inr rfl, Or.inr rfl, Or.inl rfl, Or.inl rfl, Or.inr rfl, trivial⟩ ?_
      exact k2 c0 c1 v μ' hr
theorem b_X7_scan_26 {l : Launch} {G : jG} {μ : jM} {φ : jM → Prop} {x4 z0 : Int32} {ψ0 : Int32 → jM → Prop} (hG : gGG G) (hP : gPP μ) 
    (e0 : jC0 l mX7_scanOne 2 G [.ref 4, .ref 1, .int z0, .int x4] μ (pI ψ0)) 
    (k0 : ∀ v μ', ψ0 v μ' → J l mX7_scan (jZ0 3 G (pV φ)) G 0 0 31 [.ref 4, .ref 1, .null, .null, .int x4] [.int v] μ') :
    J l mX7_scan (jZ0 3 G (pV φ)) G 0 0 26 [.ref 4, .ref 1, .null, .null, .int x4] [.int z0, .ref 1, .ref 4] μ := by
  refine j_iload dX7_scan_26 rfl rfl ?_
  refine j_cV (as := [.ref 1, .int z0, .int x4]) (rest := []) dX7_scan_28 rfl vw_X7_45 (hG 4 (12, 4) rfl) rfl ⟨Nat.le_of_ble_eq_true rfl, Nat.le_of_ble_eq_true rfl⟩ rfl rfl (fun _ _ => Nat.le_of_ble_eq_true rfl) (e0 ) (fun r μ' hr => ?_)
  obtain ⟨v, rfl, hr⟩ := hr
  exact k0  v μ' hr
theorem b_X7_scan_31 {l : Launch} {G : jG} {μ : jM} {φ : jM → Prop} {x4 z0 : Int32} (hG : gGG G) (hP : gPP μ) 
    (o0 : vp_in x4 401) 
    (k0 : ((μ.1 5 (Int32.toNatClampNeg x4)) = (0 : Int32)) → J l mX7_scan (jZ0 3 G (pV φ)) G 0 0 7 [.ref 4, .ref 1, .int z0, .int 0, .int (x4 + 1)] [] μ) 
    (k1 : (¬ ((μ.1 5 (Int32.toNatClampNeg x4)) = (0 : Int32))) → ((μ.1 5 (Int32.toNatClampNeg x4)) = (1 : Int32)) → J l mX7_scan (jZ0 3 G (pV φ)) G 0 0 7 [.ref 4, .ref 1, .int z0, .int 0, .int (x4 + 1)] [] μ) 
    (k2 : (¬ ((μ.1 5 (Int32.toNatClampNeg x4)) = (0 : Int32))) → (¬ ((μ.1 5 (Int32.toNatClampNeg x4)) = (1 : Int32))) → J l mX7_scan (jZ0 3 G (pV φ)) G 0 0 7 [.ref 4, .ref 1, .int z0, .int 1, .int (x4 + 1)] [] μ) :
    J l mX7_scan (jZ0 3 G (pV φ)) G 0 0 31 [.ref 4, .ref 1, .null, .null, .int x4] [.int z0] μ := by
  refine j_istore_n (ls' := [.ref 4, .ref 1, .int z0, .null, .int x4]) dX7_scan_31 rfl rfl (Nat.le_of_ble_eq_true rfl) rfl ?_
  refine j_aload_n dX7_scan_32 rfl rfl ?_
  refine j_getR (ci := 7) (N := 4) (f := 0) (T := TX7) 5 dX7_scan_33 rfl (hG 4 (12, 4) rfl) rfl (by decide) fl_X7_11 rfl (hP 4 0 5 rfl) ?_
  refine j_iload dX7_scan_36 rfl rfl ?_
  refine j_iald' (j := (Int32.toNatClampNeg x4)) dX7_scan_38 rfl (hG 5 (0, 401) rfl) o0 rfl ?_
  refine j_if_eq 57 dX7_scan_39 rfl (by decide) (fun c0 => ?_) (fun c0 => ?_)
  · skip
    refine j_iconst 0 dX7_scan_57 rfl (by decide) ?_
    refine j_istore_n (ls' := [.ref 4, .ref 1, .int z0, .int 0, .int x4]) dX7_scan_58 rfl rfl (Nat.le_of_ble_eq_true rfl) rfl ?_
    refine j_iinc (x4 + 1) (ls' := [.ref 4, .ref 1, .int z0, .int 0, .int (x4 + 1)]) dX7_scan_59 rfl rfl rfl (Nat.le_of_ble_eq_true rfl) rfl ?_
    refine j_goto 7 dX7_scan_62 (by decide) ?_
    exact k0 c0
  · skip
    refine j_aload_n dX7_scan_42 rfl rfl ?_
    refine j_getR (ci := 7) (N := 4) (f := 0) (T := TX7) 5 dX7_scan_43 rfl (hG 4 (12, 4) rfl) rfl (by decide) fl_X7_11 rfl (hP 4 0 5 rfl) ?_
    refine j_iload dX7_scan_46 rfl rfl ?_
    refine j_iald' (j := (Int32.toNatClampNeg x4)) dX7_scan_48 rfl (hG 5 (0, 401) rfl) o0 rfl ?_
    refine j_iconst 1 dX7_scan_49 rfl (by decide) ?_
    refine j_icmp_eq 57 dX7_scan_50 rfl (by decide) (fun c1 => ?_) (fun c1 => ?_)
    · skip
      refine j_iconst 0 dX7_scan_57 rfl (by decide) ?_
      refine j_istore_n (ls' := [.ref 4, .ref 1, .int z0, .int 0, .int x4]) dX7_scan_58 rfl rfl (Nat.le_of_ble_eq_true rfl) rfl ?_
      refine j_iinc (x4 + 1) (ls' := [.ref 4, .ref 1, .int z0, .int 0, .int (x4 + 1)]) dX7_scan_59 rfl rfl rfl (Nat.le_of_ble_eq_true rfl) rfl ?_
      refine j_goto 7 dX7_scan_62 (by decide) ?_
      exact k1 c0 c1
    · skip
      refine j_iconst 1 dX7_scan_53 rfl (by decide) ?_
      refine j_goto 58 dX7_scan_54 (by decide) ?_
      refine j_istore_n (ls' := [.ref 4, .ref 1, .int z0, .int 1, .int x4]) dX7_scan_58 rfl rfl (Nat.le_of_ble_eq_true rfl) rfl ?_
      refine j_iinc (x4 + 1) (ls' := [.ref 4, .ref 1, .int z0, .int 1, .int (x4 + 1)]) dX7_scan_59 rfl rfl rfl (Nat.le_of_ble_eq_true rfl) rfl ?_
      refine j_goto 7 dX7_scan_62 (by decide) ?_
      exact k2 c0 c1
theorem b_X7_scanOne_0 {l : Launch} {G : jG} {μ : jM} {φ : Int32 → jM → Prop} {x2 x3 : Int32} {ψ0 : Int32 → jM → Prop} (hG : gGG G) (hP : gPP μ) 
    (o0 : vp_in x3 401) 
    (o1 : (x2 < ((μ.1 1 1) : Int32)) → vp_in x2 2000) 
    (e0 : (x2 < ((μ.1 1 1) : Int32)) → jC0 l mX7_isLetter 0 G [.int (μ.1 2 (Int32.toNatClampNeg x2))] (wL (wI μ 6 (Int32.toNatClampNeg x3) x2) 7 (Int32.toNatClampNeg x3) 0) (pI ψ0)) 
    (k0 : (x2 < ((μ.1 1 1) : Int32)) → ∀ v μ', ψ0 v μ' → J l mX7_scanOne (jZ0 2 G (pI φ)) G 0 0 44 [.ref 4, .ref 1, .int x2, .int x3, .int (μ.1 2 (Int32.toNatClampNeg x2))] [.int v] μ') 
    (k1 : (¬ (x2 < ((μ.1 1 1) : Int32))) → φ x2 (wI (wL (wI μ 6 (Int32.toNatClampNeg x3) x2) 7 (Int32.toNatClampNeg x3) 0) 5 (Int32.toNatClampNeg x3) 0)) :
    J l mX7_scanOne (jZ0 2 G (pI φ)) G 0 0 0 [.ref 4, .ref 1, .int x2, .int x3, .null] [] μ := by
  refine j_aload_n dX7_scanOne_0 rfl rfl ?_
  refine j_getR (ci := 7) (N := 4) (f := 1) (T := TX7) 6 dX7_scanOne_1 rfl (hG 4 (12, 4) rfl) rfl (by decide) fl_X7_15 rfl (hP 4 1 6 rfl) ?_
  refine j_iload_n dX7_scanOne_4 rfl rfl ?_
  refine j_iload_n dX7_scanOne_5 rfl rfl ?_
  refine j_iast' (j := (Int32.toNatClampNeg x3)) dX7_scanOne_6 rfl (hG 6 (0, 401) rfl) o0 rfl ?_
  refine j_aload_n dX7_scanOne_7 rfl rfl ?_
  refine j_getR (ci := 7) (N := 4) (f := 2) (T := TX7) 7 dX7_scanOne_8 rfl (hG 4 (12, 4) rfl) rfl (by decide) fl_X7_18 rfl (hP 4 2 7 rfl) ?_
  refine j_iload_n dX7_scanOne_11 rfl rfl ?_
  refine j_lconst 0 dX7_scanOne_12 rfl (by decide) ?_
  refine j_last' (j := (Int32.toNatClampNeg x3)) dX7_scanOne_13 rfl (hG 7 (3, 401) rfl) o0 rfl ?_
  refine j_iload_n dX7_scanOne_14 rfl rfl ?_
  refine j_aload_n dX7_scanOne_15 rfl rfl ?_
  refine j_getI (ci := 6) (N := 2) (f := 1) (T := TX6) dX7_scanOne_16 rfl (hG 1 (11, 2) rfl) rfl (by decide) fl_X7_49 rfl ?_
  refine j_icmp_lt 31 dX7_scanOne_19 rfl (by decide) (fun c0 => ?_) (fun c0 => ?_)
  · skip
    refine j_aload_n dX7_scanOne_31 rfl rfl ?_
    refine j_getR (ci := 6) (N := 2) (f := 0) (T := TX6) 2 dX7_scanOne_32 rfl (hG 1 (11, 2) rfl) rfl (by decide) fl_X7_54 rfl (hP 1 0 2 rfl) ?_
    refine j_iload_n dX7_scanOne_35 rfl rfl ?_
    refine j_bald' (j := (Int32.toNatClampNeg x2)) dX7_scanOne_36 rfl (hG 2 (1, 2000) rfl) (o1 c0) rfl ?_
    refine j_istore (ls' := [.ref 4, .ref 1, .int x2, .int x3, .int (μ.1 2 (Int32.toNatClampNeg x2))]) dX7_scanOne_37 rfl (Nat.le_of_ble_eq_true rfl) rfl ?_
    refine j_iload dX7_scanOne_39 rfl rfl ?_
    refine j_cS (as := [.int (μ.1 2 (Int32.toNatClampNeg x2))]) (rest := []) dX7_scanOne_41 rfl vw_X7_58 ⟨Nat.le_of_ble_eq_true rfl, Nat.le_of_ble_eq_true rfl⟩ rfl rfl (fun _ _ => Nat.le_of_ble_eq_true rfl) (e0 c0) (fun r μ' hr => ?_)
    obtain ⟨v, rfl, hr⟩ := hr
    exact k0 c0 v μ' hr
  · skip
    refine j_aload_n dX7_scanOne_22 rfl rfl ?_
    refine j_getR (ci := 7) (N := 4) (f := 0) (T := TX7) 5 dX7_scanOne_23 rfl (hG 4 (12, 4) rfl) rfl (by decide) fl_X7_11 rfl (hP 4 0 5 rfl) ?_
    refine j_iload_n dX7_scanOne_26 rfl rfl ?_
    refine j_iconst 0 dX7_scanOne_27 rfl (by decide) ?_
    refine j_iast' (j := (Int32.toNatClampNeg x3)) dX7_scanOne_28 rfl (hG 5 (0, 401) rfl) o0 rfl ?_
    refine j_iload_n dX7_scanOne_29 rfl rfl ?_
    exact j_iret dX7_scanOne_30 rfl (k1 c0)
theorem b_X7_scanOne_44 {l : Launch} {G : jG} {μ : jM} {φ : Int32 → jM → Prop} {x2 x3 x4 z0 : Int32} {ψ0 : Int32 → jM → Prop} {ψ1 : Int32 → jM → Prop} (hG : gGG G) (hP : gPP μ) 
    (e0 : (z0 = (0 : Int32)) → jC0 l mX7_isDigit 0 G [.int x4] μ (pI ψ0)) 
    (k0 : (z0 = (0 : Int32)) → ∀ v μ', ψ0 v μ' → J l mX7_scanOne (jZ0 2 G (pI φ)) G 0 0 60 [.ref 4, .ref 1, .int x2, .int x3, .int x4] [.int v] μ') 
    (e1 : (¬ (z0 = (0 : Int32))) → jC0 l mX7_scanLetters 1 G [.ref 4, .ref 1, .int x2, .int x3] μ (pI ψ1)) 
    (k1 : (¬ (z0 = (0 : Int32))) → ∀ v μ', ψ1 v μ' → J l mX7_scanOne (jZ0 2 G (pI φ)) G 0 0 54 [.null, .null, .null, .null, .null] [.int v] μ') :
    J l mX7_scanOne (jZ0 2 G (pI φ)) G 0 0 44 [.ref 4, .ref 1, .int x2, .int x3, .int x4] [.int z0] μ := by
  refine j_if_eq 55 dX7_scanOne_44 rfl (by decide) (fun c0 => ?_) (fun c0 => ?_)
  · skip
    refine j_iload dX7_scanOne_55 rfl rfl ?_
    refine j_cS (as := [.int x4]) (rest := []) dX7_scanOne_57 rfl vw_X7_65 ⟨Nat.le_of_ble_eq_true rfl, Nat.le_of_ble_eq_true rfl⟩ rfl rfl (fun _ _ => Nat.le_of_ble_eq_true rfl) (e0 c0) (fun r μ' hr => ?_)
    obtain ⟨v, rfl, hr⟩ := hr
    exact k0 c0 v μ' hr
  · skip
    refine j_aload_n dX7_scanOne_47 rfl rfl ?_
    refine j_aload_n dX7_scanOne_48 rfl rfl ?_
    refine j_iload_n dX7_scanOne_49 rfl rfl ?_
    refine j_iload_n dX7_scanOne_50 rfl rfl ?_
    refine j_cV (as := [.ref 1, .int x2, .int x3]) (rest := []) dX7_scanOne_51 rfl vw_X7_62 (hG 4 (12, 4) rfl) rfl ⟨Nat.le_of_ble_eq_true rfl, Nat.le_of_ble_eq_true rfl⟩ rfl rfl (fun _ _ => Nat.le_of_ble_eq_true rfl) (e1 c0) (fun r μ' hr => ?_)
    obtain ⟨v, rfl, hr⟩ := hr
    refine j_forget (ls' := [.null, .null, .null, .null, .null]) ⟨Or.inl rfl, Or.inl rfl, Or.inl rfl, Or.inl rfl, Or.inl rfl, trivial⟩ ?_
    exact k1 c0 v μ' hr
theorem b_X7_scanOne_54 {l : Launch} {G : jG} {μ : jM} {φ : Int32 → jM → Prop} {z0 : Int32} (hG : gGG G) (hP : gPP μ) 
    (k0 : φ z0 μ) :
    J l mX7_scanOne (jZ0 2 G (pI φ)) G 0 0 54 [.null, .null, .null, .null, .null] [.int z0] μ := by
  exact j_iret dX7_scanOne_54 rfl (k0 )
theorem b_X7_scanOne_60 {l : Launch} {G : jG} {μ : jM} {φ : Int32 → jM → Prop} {x2 x3 x4 z0 : Int32} {ψ0 : Int32 → jM → Prop} {ψ1 : Int32 → jM → Prop} (hG : gGG G) (hP : gPP μ) 
    (e0 : (z0 = (0 : Int32)) → jC0 l mX7_isSign 0 G [.int x4] μ (pI ψ0)) 
    (k0 : (z0 = (0 : Int32)) → ∀ v μ', ψ0 v μ' → J l mX7_scanOne (jZ0 2 G (pI φ)) G 0 0 81 [.null, .null, .int x2, .null, .int x4] [.int v, .int x3, .ref 5] μ') 
    (e1 : (¬ (z0 = (0 : Int32))) → jC0 l mX7_scanDigits 1 G [.ref 4, .ref 1, .int x2, .int x3] μ (pI ψ1)) 
    (k1 : (¬ (z0 = (0 : Int32))) → ∀ v μ', ψ1 v μ' → J l mX7_scanOne (jZ0 2 G (pI φ)) G 0 0 70 [.null, .null, .null, .null, .null] [.int v] μ') :
    J l mX7_scanOne (jZ0 2 G (pI φ)) G 0 0 60 [.ref 4, .ref 1, .int x2, .int x3, .int x4] [.int z0] μ := by
  refine j_if_eq 71 dX7_scanOne_60 rfl (by decide) (fun c0 => ?_) (fun c0 => ?_)
  · skip
    refine j_aload_n dX7_scanOne_71 rfl rfl ?_
    refine j_getR (ci := 7) (N := 4) (f := 0) (T := TX7) 5 dX7_scanOne_72 rfl (hG 4 (12, 4) rfl) rfl (by decide) fl_X7_11 rfl (hP 4 0 5 rfl) ?_
    refine j_iload_n dX7_scanOne_75 rfl rfl ?_
    refine j_iload dX7_scanOne_76 rfl rfl ?_
    refine j_cS (as := [.int x4]) (rest := [.int x3, .ref 5]) dX7_scanOne_78 rfl vw_X7_71 ⟨Nat.le_of_ble_eq_true rfl, Nat.le_of_ble_eq_true rfl⟩ rfl rfl (fun _ _ => Nat.le_of_ble_eq_true rfl) (e0 c0) (fun r μ' hr => ?_)
    obtain ⟨v, rfl, hr⟩ := hr
    refine j_forget (ls' := [.null, .null, .int x2, .null, .int x4]) ⟨Or.inl rfl, Or.inl rfl, Or.inr rfl, Or.inl rfl, Or.inr rfl, trivial⟩ ?_
    exact k0 c0 v μ' hr
  · skip
    refine j_aload_n dX7_scanOne_63 rfl rfl ?_
    refine j_aload_n dX7_scanOne_64 rfl rfl ?_
    refine j_iload_n dX7_scanOne_65 rfl rfl ?_
    refine j_iload_n dX7_scanOne_66 rfl rfl ?_
    refine j_cV (as := [.ref 1, .int x2, .int x3]) (rest := []) dX7_scanOne_67 rfl vw_X7_68 (hG 4 (12, 4) rfl) rfl ⟨Nat.le_of_ble_eq_true rfl, Nat.le_of_ble_eq_true rfl⟩ rfl rfl (fun _ _ => Nat.le_of_ble_eq_true rfl) (e1 c0) (fun r μ' hr => ?_)
    obtain ⟨v, rfl, hr⟩ := hr
    refine j_forget (ls' := [.null, .null, .null, .null, .null]) ⟨Or.inl rfl, Or.inl rfl, Or.inl rfl, Or.inl rfl, Or.inl rfl, trivial⟩ ?_
    exact k1 c0 v μ' hr
theorem b_X7_scanOne_70 {l : Launch} {G : jG} {μ : jM} {φ : Int32 → jM → Prop} {z0 : Int32} (hG : gGG G) (hP : gPP μ) 
    (k0 : φ z0 μ) :
    J l mX7_scanOne (jZ0 2 G (pI φ)) G 0 0 70 [.null, .null, .null, .null, .null] [.int z0] μ := by
  exact j_iret dX7_scanOne_70 rfl (k0 )
theorem b_X7_scanOne_81 {l : Launch} {G : jG} {μ : jM} {φ : Int32 → jM → Prop} {x2 x4 z0 z1 : Int32} (hG : gGG G) (hP : gPP μ) 
    (o0 : (z0 = (0 : Int32)) → vp_in z1 401) 
    (k0 : (z0 = (0 : Int32)) → φ (x2 + 1) (wI μ 5 (Int32.toNatClampNeg z1) 1)) 
    (o1 : (¬ (z0 = (0 : Int32))) → vp_in z1 401) 
    (k1 : (¬ (z0 = (0 : Int32))) → φ (x2 + 1) (wI μ 5 (Int32.toNatClampNeg z1) x4)) :
    J l mX7_scanOne (jZ0 2 G (pI φ)) G 0 0 81 [.null, .null, .int x2, .null, .int x4] [.int z0, .int z1, .ref 5] μ := by
  refine j_if_eq 89 dX7_scanOne_81 rfl (by decide) (fun c0 => ?_) (fun c0 => ?_)
  · skip
    refine j_iconst 1 dX7_scanOne_89 rfl (by decide) ?_
    refine j_iast' (j := (Int32.toNatClampNeg z1)) dX7_scanOne_90 rfl (hG 5 (0, 401) rfl) (o0 c0) rfl ?_
    refine j_iload_n dX7_scanOne_91 rfl rfl ?_
    refine j_iconst 1 dX7_scanOne_92 rfl (by decide) ?_
    refine j_iadd dX7_scanOne_93 rfl ?_
    exact j_iret dX7_scanOne_94 rfl (k0 c0)
  · skip
    refine j_iload dX7_scanOne_84 rfl rfl ?_
    refine j_goto 90 dX7_scanOne_86 (by decide) ?_
    refine j_iast' (j := (Int32.toNatClampNeg z1)) dX7_scanOne_90 rfl (hG 5 (0, 401) rfl) (o1 c0) rfl ?_
    refine j_iload_n dX7_scanOne_91 rfl rfl ?_
    refine j_iconst 1 dX7_scanOne_92 rfl (by decide) ?_
    refine j_iadd dX7_scanOne_93 rfl ?_
    exact j_iret dX7_scanOne_94 rfl (k1 c0)
theorem b_X7_scanLetters_0 {l : Launch} {G : jG} {μ : jM} {φ : Int32 → jM → Prop} {x2 x3 : Int32} (hG : gGG G) (hP : gPP μ) 
    (k0 : J l mX7_scanLetters (jZ0 1 G (pI φ)) G 0 0 6 [.ref 4, .ref 1, .int x2, .int x3, .int x2, .long 0, .null] [] μ) :
    J l mX7_scanLetters (jZ0 1 G (pI φ)) G 0 0 0 [.ref 4, .ref 1, .int x2, .int x3, .null, .null, .null] [] μ := by
  refine j_iload_n dX7_scanLetters_0 rfl rfl ?_
  refine j_istore (ls' := [.ref 4, .ref 1, .int x2, .int x3, .int x2, .null, .null]) dX7_scanLetters_1 rfl (Nat.le_of_ble_eq_true rfl) rfl ?_
  refine j_lconst 0 dX7_scanLetters_3 rfl (by decide) ?_
  refine j_lstore (ls' := [.ref 4, .ref 1, .int x2, .int x3, .int x2, .long 0, .null]) dX7_scanLetters_4 rfl (Nat.le_of_ble_eq_true rfl) rfl ?_
  exact k0 
theorem b_X7_scanLetters_6 {l : Launch} {G : jG} {μ : jM} {φ : Int32 → jM → Prop} {x2 x3 x4 : Int32} {x5 : Int64} {ψ0 : Int32 → jM → Prop} {ψ2 : Int32 → jM → Prop} (hG : gGG G) (hP : gPP μ) 
    (o0 : ((μ.1 1 1) ≤ (x4 : Int32)) → vp_in x3 401) 
    (e0 : ((μ.1 1 1) ≤ (x4 : Int32)) → ((x4 - x2) ≤ (8 : Int32)) → jC0 l mX7_kindOf 0 G [.ref 4, .long x5] (wL μ 7 (Int32.toNatClampNeg x3) x5) (pI ψ0)) 
    (k0 : ((μ.1 1 1) ≤ (x4 : Int32)) → ((x4 - x2) ≤ (8 : Int32)) → ∀ v μ', ψ0 v μ' → J l mX7_scanLetters (jZ0 1 G (pI φ)) G 0 0 80 [.null, .null, .null, .null, .int x4, .null, .null] [.int v, .int x3, .ref 5] μ') 
    (k1 : ((μ.1 1 1) ≤ (x4 : Int32)) → (¬ ((x4 - x2) ≤ (8 : Int32))) → φ x4 (wI (wL μ 7 (Int32.toNatClampNeg x3) x5) 5 (Int32.toNatClampNeg x3) 1)) 
    (o1 : (¬ ((μ.1 1 1) ≤ (x4 : Int32))) → vp_in x4 2000) 
    (e2 : (¬ ((μ.1 1 1) ≤ (x4 : Int32))) → jC0 l mX7_isLetter 0 G [.int (μ.1 2 (Int32.toNatClampNeg x4))] μ (pI ψ2)) 
    (k2 : (¬ ((μ.1 1 1) ≤ (x4 : Int32))) → ∀ v μ', ψ2 v μ' → J l mX7_scanLetters (jZ0 1 G (pI φ)) G 0 0 25 [.ref 4, .ref 1, .int x2, .int x3, .int x4, .long x5, .null] [.int v] μ') :
    J l mX7_scanLetters (jZ0 1 G (pI φ)) G 0 0 6 [.ref 4, .ref 1, .int x2, .int x3, .int x4, .long x5, .null] [] μ := by
  refine j_iload dX7_scanLetters_6 rfl rfl ?_
  refine j_aload_n dX7_scanLetters_8 rfl rfl ?_
  refine j_getI (ci := 6) (N := 2) (f := 1) (T := TX6) dX7_scanLetters_9 rfl (hG 1 (11, 2) rfl) rfl (by decide) fl_X7_49 rfl ?_
  refine j_icmp_ge 48 dX7_scanLetters_12 rfl (by decide) (fun c0 => ?_) (fun c0 => ?_)
  · skip
    refine j_aload_n dX7_scanLetters_48 rfl rfl ?_
    refine j_getR (ci := 7) (N := 4) (f := 2) (T := TX7) 7 dX7_scanLetters_49 rfl (hG 4 (12, 4) rfl) rfl (by decide) fl_X7_18 rfl (hP 4 2 7 rfl) ?_
    refine j_iload_n dX7_scanLetters_52 rfl rfl ?_
    refine j_lload dX7_scanLetters_53 rfl rfl ?_
    refine j_last' (j := (Int32.toNatClampNeg x3)) dX7_scanLetters_55 rfl (hG 7 (3, 401) rfl) (o0 c0) rfl ?_
    refine j_aload_n dX7_scanLetters_56 rfl rfl ?_
    refine j_getR (ci := 7) (N := 4) (f := 0) (T := TX7) 5 dX7_scanLetters_57 rfl (hG 4 (12, 4) rfl) rfl (by decide) fl_X7_11 rfl (hP 4 0 5 rfl) ?_
    refine j_iload_n dX7_scanLetters_60 rfl rfl ?_
    refine j_iload dX7_scanLetters_61 rfl rfl ?_
    refine j_iload_n dX7_scanLetters_63 rfl rfl ?_
    refine j_isub dX7_scanLetters_64 rfl ?_
    refine j_bipush 8 dX7_scanLetters_65 rfl (by decide) ?_
    refine j_icmp_le 74 dX7_scanLetters_67 rfl (by decide) (fun c1 => ?_) (fun c1 => ?_)
    · skip
      refine j_aload_n dX7_scanLetters_74 rfl rfl ?_
      refine j_lload dX7_scanLetters_75 rfl rfl ?_
      refine j_cV (as := [.long x5]) (rest := [.int x3, .ref 5]) dX7_scanLetters_77 rfl vw_X7_74 (hG 4 (12, 4) rfl) rfl ⟨Nat.le_of_ble_eq_true rfl, Nat.le_of_ble_eq_true rfl⟩ rfl rfl (fun _ _ => Nat.le_of_ble_eq_true rfl) (e0 c0 c1) (fun r μ' hr => ?_)
      obtain ⟨v, rfl, hr⟩ := hr
      refine j_forget (ls' := [.null, .null, .null, .null, .int x4, .null, .null]) ⟨Or.inl rfl, Or.inl rfl, Or.inl rfl, Or.inl rfl, Or.inr rfl, Or.inl rfl, Or.inr rfl, trivial⟩ ?_
      exact k0 c0 c1 v μ' hr
    · skip
      refine j_iconst 1 dX7_scanLetters_70 rfl (by decide) ?_
      refine j_goto 80 dX7_scanLetters_71 (by decide) ?_
      refine j_iast' (j := (Int32.toNatClampNeg x3)) dX7_scanLetters_80 rfl (hG 5 (0, 401) rfl) (o0 c0) rfl ?_
      refine j_iload dX7_scanLetters_81 rfl rfl ?_
      exact j_iret dX7_scanLetters_83 rfl (k1 c0 c1)
  · skip
    refine j_aload_n dX7_scanLetters_15 rfl rfl ?_
    refine j_getR (ci := 6) (N := 2) (f := 0) (T := TX6) 2 dX7_scanLetters_16 rfl (hG 1 (11, 2) rfl) rfl (by decide) fl_X7_54 rfl (hP 1 0 2 rfl) ?_
    refine j_iload dX7_scanLetters_19 rfl rfl ?_
    refine j_bald' (j := (Int32.toNatClampNeg x4)) dX7_scanLetters_21 rfl (hG 2 (1, 2000) rfl) (o1 c0) rfl ?_
    refine j_cS (as := [.int (μ.1 2 (Int32.toNatClampNeg x4))]) (rest := []) dX7_scanLetters_22 rfl vw_X7_58 ⟨Nat.le_of_ble_eq_true rfl, Nat.le_of_ble_eq_true rfl⟩ rfl rfl (fun _ _ => Nat.le_of_ble_eq_true rfl) (e2 c0) (fun r μ' hr => ?_)
    obtain ⟨v, rfl, hr⟩ := hr
    exact k2 c0 v μ' hr
theorem b_X7_scanLetters_25 {l : Launch} {G : jG} {μ : jM} {φ : Int32 → jM → Prop} {x2 x3 x4 z0 : Int32} {x5 : Int64} {ψ0 : Int32 → jM → Prop} {ψ2 : Int64 → jM → Prop} (hG : gGG G) (hP : gPP μ) 
    (o0 : (z0 = (0 : Int32)) → vp_in x3 401) 
    (e0 : (z0 = (0 : Int32)) → ((x4 - x2) ≤ (8 : Int32)) → jC0 l mX7_kindOf 0 G [.ref 4, .long x5] (wL μ 7 (Int32.toNatClampNeg x3) x5) (pI ψ0)) 
    (k0 : (z0 = (0 : Int32)) → ((x4 - x2) ≤ (8 : Int32)) → ∀ v μ', ψ0 v μ' → J l mX7_scanLetters (jZ0 1 G (pI φ)) G 0 0 80 [.null, .null, .null, .null, .int x4, .null, .null] [.int v, .int x3, .ref 5] μ') 
    (k1 : (z0 = (0 : Int32)) → (¬ ((x4 - x2) ≤ (8 : Int32))) → φ x4 (wI (wL μ 7 (Int32.toNatClampNeg x3) x5) 5 (Int32.toNatClampNeg x3) 1)) 
    (o1 : (¬ (z0 = (0 : Int32))) → vp_in x4 2000) 
    (e2 : (¬ (z0 = (0 : Int32))) → jC0 l mX7_withLetter 0 G [.long x5, .int (μ.1 2 (Int32.toNatClampNeg x4))] μ (pJ ψ2)) 
    (k2 : (¬ (z0 = (0 : Int32))) → ∀ v μ', ψ2 v μ' → J l mX7_scanLetters (jZ0 1 G (pI φ)) G 0 0 40 [.ref 4, .ref 1, .int x2, .int x3, .int x4, .null, .null] [.long v] μ') :
    J l mX7_scanLetters (jZ0 1 G (pI φ)) G 0 0 25 [.ref 4, .ref 1, .int x2, .int x3, .int x4, .long x5, .null] [.int z0] μ := by
  refine j_if_eq 48 dX7_scanLetters_25 rfl (by decide) (fun c0 => ?_) (fun c0 => ?_)
  · skip
    refine j_aload_n dX7_scanLetters_48 rfl rfl ?_
    refine j_getR (ci := 7) (N := 4) (f := 2) (T := TX7) 7 dX7_scanLetters_49 rfl (hG 4 (12, 4) rfl) rfl (by decide) fl_X7_18 rfl (hP 4 2 7 rfl) ?_
    refine j_iload_n dX7_scanLetters_52 rfl rfl ?_
    refine j_lload dX7_scanLetters_53 rfl rfl ?_
    refine j_last' (j := (Int32.toNatClampNeg x3)) dX7_scanLetters_55 rfl (hG 7 (3, 401) rfl) (o0 c0) rfl ?_
    refine j_aload_n dX7_scanLetters_56 rfl rfl ?_
    refine j_getR (ci := 7) (N := 4) (f := 0) (T := TX7) 5 dX7_scanLetters_57 rfl (hG 4 (12, 4) rfl) rfl (by decide) fl_X7_11 rfl (hP 4 0 5 rfl) ?_
    refine j_iload_n dX7_scanLetters_60 rfl rfl ?_
    refine j_iload dX7_scanLetters_61 rfl rfl ?_
    refine j_iload_n dX7_scanLetters_63 rfl rfl ?_
    refine j_isub dX7_scanLetters_64 rfl ?_
    refine j_bipush 8 dX7_scanLetters_65 rfl (by decide) ?_
    refine j_icmp_le 74 dX7_scanLetters_67 rfl (by decide) (fun c1 => ?_) (fun c1 => ?_)
    · skip
      refine j_aload_n dX7_scanLetters_74 rfl rfl ?_
      refine j_lload dX7_scanLetters_75 rfl rfl ?_
      refine j_cV (as := [.long x5]) (rest := [.int x3, .ref 5]) dX7_scanLetters_77 rfl vw_X7_74 (hG 4 (12, 4) rfl) rfl ⟨Nat.le_of_ble_eq_true rfl, Nat.le_of_ble_eq_true rfl⟩ rfl rfl (fun _ _ => Nat.le_of_ble_eq_true rfl) (e0 c0 c1) (fun r μ' hr => ?_)
      obtain ⟨v, rfl, hr⟩ := hr
      refine j_forget (ls' := [.null, .null, .null, .null, .int x4, .null, .null]) ⟨Or.inl rfl, Or.inl rfl, Or.inl rfl, Or.inl rfl, Or.inr rfl, Or.inl rfl, Or.inr rfl, trivial⟩ ?_
      exact k0 c0 c1 v μ' hr
    · skip
      refine j_iconst 1 dX7_scanLetters_70 rfl (by decide) ?_
      refine j_goto 80 dX7_scanLetters_71 (by decide) ?_
      refine j_iast' (j := (Int32.toNatClampNeg x3)) dX7_scanLetters_80 rfl (hG 5 (0, 401) rfl) (o0 c0) rfl ?_
      refine j_iload dX7_scanLetters_81 rfl rfl ?_
      exact j_iret dX7_scanLetters_83 rfl (k1 c0 c1)
  · skip
    refine j_lload dX7_scanLetters_28 rfl rfl ?_
    refine j_aload_n dX7_scanLetters_30 rfl rfl ?_
    refine j_getR (ci := 6) (N := 2) (f := 0) (T := TX6) 2 dX7_scanLetters_31 rfl (hG 1 (11, 2) rfl) rfl (by decide) fl_X7_54 rfl (hP 1 0 2 rfl) ?_
    refine j_iload dX7_scanLetters_34 rfl rfl ?_
    refine j_bald' (j := (Int32.toNatClampNeg x4)) dX7_scanLetters_36 rfl (hG 2 (1, 2000) rfl) (o1 c0) rfl ?_
    refine j_cS (as := [.long x5, .int (μ.1 2 (Int32.toNatClampNeg x4))]) (rest := []) dX7_scanLetters_37 rfl vw_X7_37 ⟨Nat.le_of_ble_eq_true rfl, Nat.le_of_ble_eq_true rfl⟩ rfl rfl (fun _ _ => Nat.le_of_ble_eq_true rfl) (e2 c0) (fun r μ' hr => ?_)
    obtain ⟨v, rfl, hr⟩ := hr
    refine j_forget (ls' := [.ref 4, .ref 1, .int x2, .int x3, .int x4, .null, .null]) ⟨Or.inr rfl, Or.inr rfl, Or.inr rfl, Or.inr rfl, Or.inr rfl, Or.inl rfl, Or.inr rfl, trivial⟩ ?_
    exact k2 c0 v μ' hr
theorem b_X7_scanLetters_40 {l : Launch} {G : jG} {μ : jM} {φ : Int32 → jM → Prop} {x2 x3 x4 : Int32} {z0 : Int64} (hG : gGG G) (hP : gPP μ) 
    (k0 : J l mX7_scanLetters (jZ0 1 G (pI φ)) G 0 0 6 [.ref 4, .ref 1, .int x2, .int x3, .int (x4 + 1), .long z0, .null] [] μ) :
    J l mX7_scanLetters (jZ0 1 G (pI φ)) G 0 0 40 [.ref 4, .ref 1, .int x2, .int x3, .int x4, .null, .null] [.long z0] μ := by
  refine j_lstore (ls' := [.ref 4, .ref 1, .int x2, .int x3, .int x4, .long z0, .null]) dX7_scanLetters_40 rfl (Nat.le_of_ble_eq_true rfl) rfl ?_
  refine j_iinc (x4 + 1) (ls' := [.ref 4, .ref 1, .int x2, .int x3, .int (x4 + 1), .long z0, .null]) dX7_scanLetters_42 rfl rfl rfl (Nat.le_of_ble_eq_true rfl) rfl ?_
  refine j_goto 6 dX7_scanLetters_45 (by decide) ?_
  exact k0 
theorem b_X7_scanLetters_80 {l : Launch} {G : jG} {μ : jM} {φ : Int32 → jM → Prop} {x4 z0 z1 : Int32} (hG : gGG G) (hP : gPP μ) 
    (o0 : vp_in z1 401) 
    (k0 : φ x4 (wI μ 5 (Int32.toNatClampNeg z1) z0)) :
    J l mX7_scanLetters (jZ0 1 G (pI φ)) G 0 0 80 [.null, .null, .null, .null, .int x4, .null, .null] [.int z0, .int z1, .ref 5] μ := by
  refine j_iast' (j := (Int32.toNatClampNeg z1)) dX7_scanLetters_80 rfl (hG 5 (0, 401) rfl) o0 rfl ?_
  refine j_iload dX7_scanLetters_81 rfl rfl ?_
  exact j_iret dX7_scanLetters_83 rfl (k0 )
theorem b_X7_scanDigits_0 {l : Launch} {G : jG} {μ : jM} {φ : Int32 → jM → Prop} {x2 x3 : Int32} (hG : gGG G) (hP : gPP μ) 
    (k0 : J l mX7_scanDigits (jZ0 1 G (pI φ)) G 0 0 6 [.ref 4, .ref 1, .int x2, .int x3, .int x2, .long 0, .null] [] μ) :
    J l mX7_scanDigits (jZ0 1 G (pI φ)) G 0 0 0 [.ref 4, .ref 1, .int x2, .int x3, .null, .null, .null] [] μ := by
  refine j_iload_n dX7_scanDigits_0 rfl rfl ?_
  refine j_istore (ls' := [.ref 4, .ref 1, .int x2, .int x3, .int x2, .null, .null]) dX7_scanDigits_1 rfl (Nat.le_of_ble_eq_true rfl) rfl ?_
  refine j_lconst 0 dX7_scanDigits_3 rfl (by decide) ?_
  refine j_lstore (ls' := [.ref 4, .ref 1, .int x2, .int x3, .int x2, .long 0, .null]) dX7_scanDigits_4 rfl (Nat.le_of_ble_eq_true rfl) rfl ?_
  exact k0 
theorem b_X7_scanDigits_6 {l : Launch} {G : jG} {μ : jM} {φ : Int32 → jM → Prop} {x2 x3 x4 : Int32} {x5 : Int64} {ψ2 : Int32 → jM → Prop} (hG : gGG G) (hP : gPP μ) 
    (o0 : ((μ.1 1 1) ≤ (x4 : Int32)) → vp_in x3 401) 
    (k0 : ((μ.1 1 1) ≤ (x4 : Int32)) → ((x4 - x2) ≤ (4 : Int32)) → φ x4 (wI (wL μ 7 (Int32.toNatClampNeg x3) x5) 5 (Int32.toNatClampNeg x3) 3)) 
    (k1 : ((μ.1 1 1) ≤ (x4 : Int32)) → (¬ ((x4 - x2) ≤ (4 : Int32))) → φ x4 (wI (wL μ 7 (Int32.toNatClampNeg x3) x5) 5 (Int32.toNatClampNeg x3) 1)) 
    (o1 : (¬ ((μ.1 1 1) ≤ (x4 : Int32))) → vp_in x4 2000) 
    (e2 : (¬ ((μ.1 1 1) ≤ (x4 : Int32))) → jC0 l mX7_isDigit 0 G [.int (μ.1 2 (Int32.toNatClampNeg x4))] μ (pI ψ2)) 
    (k2 : (¬ ((μ.1 1 1) ≤ (x4 : Int32))) → ∀ v μ', ψ2 v μ' → J l mX7_scanDigits (jZ0 1 G (pI φ)) G 0 0 25 [.ref 4, .ref 1, .int x2, .int x3, .int x4, .long x5, .null] [.int v] μ') :
    J l mX7_scanDigits (jZ0 1 G (pI φ)) G 0 0 6 [.ref 4, .ref 1, .int x2, .int x3, .int x4, .long x5, .null] [] μ := by
  refine j_iload dX7_scanDigits_6 rfl rfl ?_
  refine j_aload_n dX7_scanDigits_8 rfl rfl ?_
  refine j_getI (ci := 6) (N := 2) (f := 1) (T := TX6) dX7_scanDigits_9 rfl (hG 1 (11, 2) rfl) rfl (by decide) fl_X7_49 rfl ?_
  refine j_icmp_ge 54 dX7_scanDigits_12 rfl (by decide) (fun c0 => ?_) (fun c0 => ?_)
  · skip
    refine j_aload_n dX7_scanDigits_54 rfl rfl ?_
    refine j_getR (ci := 7) (N := 4) (f := 2) (T := TX7) 7 dX7_scanDigits_55 rfl (hG 4 (12, 4) rfl) rfl (by decide) fl_X7_18 rfl (hP 4 2 7 rfl) ?_
    refine j_iload_n dX7_scanDigits_58 rfl rfl ?_
    refine j_lload dX7_scanDigits_59 rfl rfl ?_
    refine j_last' (j := (Int32.toNatClampNeg x3)) dX7_scanDigits_61 rfl (hG 7 (3, 401) rfl) (o0 c0) rfl ?_
    refine j_aload_n dX7_scanDigits_62 rfl rfl ?_
    refine j_getR (ci := 7) (N := 4) (f := 0) (T := TX7) 5 dX7_scanDigits_63 rfl (hG 4 (12, 4) rfl) rfl (by decide) fl_X7_11 rfl (hP 4 0 5 rfl) ?_
    refine j_iload_n dX7_scanDigits_66 rfl rfl ?_
    refine j_iload dX7_scanDigits_67 rfl rfl ?_
    refine j_iload_n dX7_scanDigits_69 rfl rfl ?_
    refine j_isub dX7_scanDigits_70 rfl ?_
    refine j_iconst 4 dX7_scanDigits_71 rfl (by decide) ?_
    refine j_icmp_le 79 dX7_scanDigits_72 rfl (by decide) (fun c1 => ?_) (fun c1 => ?_)
    · skip
      refine j_iconst 3 dX7_scanDigits_79 rfl (by decide) ?_
      refine j_iast' (j := (Int32.toNatClampNeg x3)) dX7_scanDigits_80 rfl (hG 5 (0, 401) rfl) (o0 c0) rfl ?_
      refine j_iload dX7_scanDigits_81 rfl rfl ?_
      exact j_iret dX7_scanDigits_83 rfl (k0 c0 c1)
    · skip
      refine j_iconst 1 dX7_scanDigits_75 rfl (by decide) ?_
      refine j_goto 80 dX7_scanDigits_76 (by decide) ?_
      refine j_iast' (j := (Int32.toNatClampNeg x3)) dX7_scanDigits_80 rfl (hG 5 (0, 401) rfl) (o0 c0) rfl ?_
      refine j_iload dX7_scanDigits_81 rfl rfl ?_
      exact j_iret dX7_scanDigits_83 rfl (k1 c0 c1)
  · skip
    refine j_aload_n dX7_scanDigits_15 rfl rfl ?_
    refine j_getR (ci := 6) (N := 2) (f := 0) (T := TX6) 2 dX7_scanDigits_16 rfl (hG 1 (11, 2) rfl) rfl (by decide) fl_X7_54 rfl (hP 1 0 2 rfl) ?_
    refine j_iload dX7_scanDigits_19 rfl rfl ?_
    refine j_bald' (j := (Int32.toNatClampNeg x4)) dX7_scanDigits_21 rfl (hG 2 (1, 2000) rfl) (o1 c0) rfl ?_
    refine j_cS (as := [.int (μ.1 2 (Int32.toNatClampNeg x4))]) (rest := []) dX7_scanDigits_22 rfl vw_X7_65 ⟨Nat.le_of_ble_eq_true rfl, Nat.le_of_ble_eq_true rfl⟩ rfl rfl (fun _ _ => Nat.le_of_ble_eq_true rfl) (e2 c0) (fun r μ' hr => ?_)
    obtain ⟨v, rfl, hr⟩ := hr
    exact k2 c0 v μ' hr
theorem b_X7_scanDigits_25 {l : Launch} {G : jG} {μ : jM} {φ : Int32 → jM → Prop} {x2 x3 x4 z0 : Int32} {x5 : Int64} (hG : gGG G) (hP : gPP μ) 
    (o0 : (z0 = (0 : Int32)) → vp_in x3 401) 
    (k0 : (z0 = (0 : Int32)) → ((x4 - x2) ≤ (4 : Int32)) → φ x4 (wI (wL μ 7 (Int32.toNatClampNeg x3) x5) 5 (Int32.toNatClampNeg x3) 3)) 
    (k1 : (z0 = (0 : Int32)) → (¬ ((x4 - x2) ≤ (4 : Int32))) → φ x4 (wI (wL μ 7 (Int32.toNatClampNeg x3) x5) 5 (Int32.toNatClampNeg x3) 1)) 
    (o1 : (¬ (z0 = (0 : Int32))) → vp_in x4 2000) 
    (k2 : (¬ (z0 = (0 : Int32))) → J l mX7_scanDigits (jZ0 1 G (pI φ)) G 0 0 6 [.ref 4, .ref 1, .int x2, .int x3, .int (x4 + 1), .long ((x5 * 10) + (Int32.toInt64 ((μ.1 2 (Int32.toNatClampNeg x4)) - 48))), .null] [] μ) :
    J l mX7_scanDigits (jZ0 1 G (pI φ)) G 0 0 25 [.ref 4, .ref 1, .int x2, .int x3, .int x4, .long x5, .null] [.int z0] μ := by
  refine j_if_eq 54 dX7_scanDigits_25 rfl (by decide) (fun c0 => ?_) (fun c0 => ?_)
  · skip
    refine j_aload_n dX7_scanDigits_54 rfl rfl ?_
    refine j_getR (ci := 7) (N := 4) (f := 2) (T := TX7) 7 dX7_scanDigits_55 rfl (hG 4 (12, 4) rfl) rfl (by decide) fl_X7_18 rfl (hP 4 2 7 rfl) ?_
    refine j_iload_n dX7_scanDigits_58 rfl rfl ?_
    refine j_lload dX7_scanDigits_59 rfl rfl ?_
    refine j_last' (j := (Int32.toNatClampNeg x3)) dX7_scanDigits_61 rfl (hG 7 (3, 401) rfl) (o0 c0) rfl ?_
    refine j_aload_n dX7_scanDigits_62 rfl rfl ?_
    refine j_getR (ci := 7) (N := 4) (f := 0) (T := TX7) 5 dX7_scanDigits_63 rfl (hG 4 (12, 4) rfl) rfl (by decide) fl_X7_11 rfl (hP 4 0 5 rfl) ?_
    refine j_iload_n dX7_scanDigits_66 rfl rfl ?_
    refine j_iload dX7_scanDigits_67 rfl rfl ?_
    refine j_iload_n dX7_scanDigits_69 rfl rfl ?_
    refine j_isub dX7_scanDigits_70 rfl ?_
    refine j_iconst 4 dX7_scanDigits_71 rfl (by decide) ?_
    refine j_icmp_le 79 dX7_scanDigits_72 rfl (by decide) (fun c1 => ?_) (fun c1 => ?_)
    · skip
      refine j_iconst 3 dX7_scanDigits_79 rfl (by decide) ?_
      refine j_iast' (j := (Int32.toNatClampNeg x3)) dX7_scanDigits_80 rfl (hG 5 (0, 401) rfl) (o0 c0) rfl ?_
      refine j_iload dX7_scanDigits_81 rfl rfl ?_
      exact j_iret dX7_scanDigits_83 rfl (k0 c0 c1)
    · skip
      refine j_iconst 1 dX7_scanDigits_75 rfl (by decide) ?_
      refine j_goto 80 dX7_scanDigits_76 (by decide) ?_
      refine j_iast' (j := (Int32.toNatClampNeg x3)) dX7_scanDigits_80 rfl (hG 5 (0, 401) rfl) (o0 c0) rfl ?_
      refine j_iload dX7_scanDigits_81 rfl rfl ?_
      exact j_iret dX7_scanDigits_83 rfl (k1 c0 c1)
  · skip
    refine j_lload dX7_scanDigits_28 rfl rfl ?_
    refine j_ldc2 10 dX7_scanDigits_30 rfl ck_X7_78 ?_
    refine j_lmul dX7_scanDigits_33 rfl ?_
    refine j_aload_n dX7_scanDigits_34 rfl rfl ?_
    refine j_getR (ci := 6) (N := 2) (f := 0) (T := TX6) 2 dX7_scanDigits_35 rfl (hG 1 (11, 2) rfl) rfl (by decide) fl_X7_54 rfl (hP 1 0 2 rfl) ?_
    refine j_iload dX7_scanDigits_38 rfl rfl ?_
    refine j_bald' (j := (Int32.toNatClampNeg x4)) dX7_scanDigits_40 rfl (hG 2 (1, 2000) rfl) (o1 c0) rfl ?_
    refine j_bipush 48 dX7_scanDigits_41 rfl (by decide) ?_
    refine j_isub dX7_scanDigits_43 rfl ?_
    refine j_i2l dX7_scanDigits_44 rfl ?_
    refine j_ladd dX7_scanDigits_45 rfl ?_
    refine j_lstore (ls' := [.ref 4, .ref 1, .int x2, .int x3, .int x4, .long ((x5 * 10) + (Int32.toInt64 ((μ.1 2 (Int32.toNatClampNeg x4)) - 48))), .null]) dX7_scanDigits_46 rfl (Nat.le_of_ble_eq_true rfl) rfl ?_
    refine j_iinc (x4 + 1) (ls' := [.ref 4, .ref 1, .int x2, .int x3, .int (x4 + 1), .long ((x5 * 10) + (Int32.toInt64 ((μ.1 2 (Int32.toNatClampNeg x4)) - 48))), .null]) dX7_scanDigits_48 rfl rfl rfl (Nat.le_of_ble_eq_true rfl) rfl ?_
    refine j_goto 6 dX7_scanDigits_51 (by decide) ?_
    exact k2 c0
theorem b_X7_kindOf_0 {l : Launch} {G : jG} {μ : jM} {φ : Int32 → jM → Prop} {x1 : Int64} (hG : gGG G) (hP : gPP μ) 
    (k0 : J l mX7_kindOf (jZ0 0 G (pI φ)) G 0 0 2 [.ref 4, .long x1, .null, .int 0] [] μ) :
    J l mX7_kindOf (jZ0 0 G (pI φ)) G 0 0 0 [.ref 4, .long x1, .null, .null] [] μ := by
  refine j_iconst 0 dX7_kindOf_0 rfl (by decide) ?_
  refine j_istore_n (ls' := [.ref 4, .long x1, .null, .int 0]) dX7_kindOf_1 rfl rfl (Nat.le_of_ble_eq_true rfl) rfl ?_
  exact k0 
theorem b_X7_kindOf_2 {l : Launch} {G : jG} {μ : jM} {φ : Int32 → jM → Prop} {x3 : Int32} {x1 : Int64} (hG : gGG G) (hP : gPP μ) 
    (k0 : (23 ≤ (x3 : Int32)) → φ 2 μ) 
    (o0 : (¬ (23 ≤ (x3 : Int32))) → vp_in x3 23) 
    (k1 : (¬ (23 ≤ (x3 : Int32))) → (¬ (lg_cmp (μ.2.1 8 (Int32.toNatClampNeg x3)) x1) = (0 : Int32)) → J l mX7_kindOf (jZ0 0 G (pI φ)) G 0 0 2 [.ref 4, .long x1, .null, .int (x3 + 1)] [] μ) 
    (k2 : (¬ (23 ≤ (x3 : Int32))) → ((lg_cmp (μ.2.1 8 (Int32.toNatClampNeg x3)) x1) = (0 : Int32)) → φ (128 + x3) μ) :
    J l mX7_kindOf (jZ0 0 G (pI φ)) G 0 0 2 [.ref 4, .long x1, .null, .int x3] [] μ := by
  refine j_iload_n dX7_kindOf_2 rfl rfl ?_
  refine j_bipush 23 dX7_kindOf_3 rfl (by decide) ?_
  refine j_icmp_ge 31 dX7_kindOf_5 rfl (by decide) (fun c0 => ?_) (fun c0 => ?_)
  · skip
    refine j_iconst 2 dX7_kindOf_31 rfl (by decide) ?_
    exact j_iret dX7_kindOf_32 rfl (k0 c0)
  · skip
    refine j_aload_n dX7_kindOf_8 rfl rfl ?_
    refine j_getR (ci := 7) (N := 4) (f := 3) (T := TX7) 8 dX7_kindOf_9 rfl (hG 4 (12, 4) rfl) rfl (by decide) fl_X7_22 rfl (hP 4 3 8 rfl) ?_
    refine j_iload_n dX7_kindOf_12 rfl rfl ?_
    refine j_lald' (j := (Int32.toNatClampNeg x3)) dX7_kindOf_13 rfl (hG 8 (3, 23) rfl) (o0 c0) rfl ?_
    refine j_lload_n dX7_kindOf_14 rfl rfl ?_
    refine j_lcmp dX7_kindOf_15 rfl ?_
    refine j_if_ne 25 dX7_kindOf_16 rfl (by decide) (fun c1 => ?_) (fun c1 => ?_)
    · skip
      refine j_iinc (x3 + 1) (ls' := [.ref 4, .long x1, .null, .int (x3 + 1)]) dX7_kindOf_25 rfl rfl rfl (Nat.le_of_ble_eq_true rfl) rfl ?_
      refine j_goto 2 dX7_kindOf_28 (by decide) ?_
      exact k1 c0 c1
    · skip
      refine j_sipush 128 dX7_kindOf_19 rfl (by decide) ?_
      refine j_iload_n dX7_kindOf_22 rfl rfl ?_
      refine j_iadd dX7_kindOf_23 rfl ?_
      exact j_iret dX7_kindOf_24 rfl (k2 c0 c1)
theorem b_X7_afterBlanks_0 {l : Launch} {G : jG} {μ : jM} {φ : Int32 → jM → Prop} {x1 : Int32} (hG : gGG G) (hP : gPP μ) 
    (k0 : J l mX7_afterBlanks (jZ0 1 G (pI φ)) G 0 0 2 [.ref 1, .null, .int x1] [] μ) :
    J l mX7_afterBlanks (jZ0 1 G (pI φ)) G 0 0 0 [.ref 1, .int x1, .null] [] μ := by
  refine j_iload_n dX7_afterBlanks_0 rfl rfl ?_
  refine j_istore_n (ls' := [.ref 1, .int x1, .int x1]) dX7_afterBlanks_1 rfl rfl (Nat.le_of_ble_eq_true rfl) rfl ?_
  refine j_forget (ls' := [.ref 1, .null, .int x1]) ⟨Or.inr rfl, Or.inl rfl, Or.inr rfl, trivial⟩ ?_
  exact k0 
theorem b_X7_afterBlanks_2 {l : Launch} {G : jG} {μ : jM} {φ : Int32 → jM → Prop} {x2 : Int32} {ψ1 : Int32 → jM → Prop} (hG : gGG G) (hP : gPP μ) 
    (k0 : ((μ.1 1 1) ≤ (x2 : Int32)) → φ x2 μ) 
    (o0 : (¬ ((μ.1 1 1) ≤ (x2 : Int32))) → vp_in x2 2000) 
    (e1 : (¬ ((μ.1 1 1) ≤ (x2 : Int32))) → jC0 l mX7_isBlank 0 G [.int (μ.1 2 (Int32.toNatClampNeg x2))] μ (pI ψ1)) 
    (k1 : (¬ ((μ.1 1 1) ≤ (x2 : Int32))) → ∀ v μ', ψ1 v μ' → J l mX7_afterBlanks (jZ0 1 G (pI φ)) G 0 0 19 [.ref 1, .null, .int x2] [.int v] μ') :
    J l mX7_afterBlanks (jZ0 1 G (pI φ)) G 0 0 2 [.ref 1, .null, .int x2] [] μ := by
  refine j_iload_n dX7_afterBlanks_2 rfl rfl ?_
  refine j_aload_n dX7_afterBlanks_3 rfl rfl ?_
  refine j_getI (ci := 6) (N := 2) (f := 1) (T := TX6) dX7_afterBlanks_4 rfl (hG 1 (11, 2) rfl) rfl (by decide) fl_X7_49 rfl ?_
  refine j_icmp_ge 28 dX7_afterBlanks_7 rfl (by decide) (fun c0 => ?_) (fun c0 => ?_)
  · skip
    refine j_iload_n dX7_afterBlanks_28 rfl rfl ?_
    exact j_iret dX7_afterBlanks_29 rfl (k0 c0)
  · skip
    refine j_aload_n dX7_afterBlanks_10 rfl rfl ?_
    refine j_getR (ci := 6) (N := 2) (f := 0) (T := TX6) 2 dX7_afterBlanks_11 rfl (hG 1 (11, 2) rfl) rfl (by decide) fl_X7_54 rfl (hP 1 0 2 rfl) ?_
    refine j_iload_n dX7_afterBlanks_14 rfl rfl ?_
    refine j_bald' (j := (Int32.toNatClampNeg x2)) dX7_afterBlanks_15 rfl (hG 2 (1, 2000) rfl) (o0 c0) rfl ?_
    refine j_cS (as := [.int (μ.1 2 (Int32.toNatClampNeg x2))]) (rest := []) dX7_afterBlanks_16 rfl vw_X7_80 ⟨Nat.le_of_ble_eq_true rfl, Nat.le_of_ble_eq_true rfl⟩ rfl rfl (fun _ _ => Nat.le_of_ble_eq_true rfl) (e1 c0) (fun r μ' hr => ?_)
    obtain ⟨v, rfl, hr⟩ := hr
    exact k1 c0 v μ' hr
theorem b_X7_afterBlanks_19 {l : Launch} {G : jG} {μ : jM} {φ : Int32 → jM → Prop} {x2 z0 : Int32} (hG : gGG G) (hP : gPP μ) 
    (k0 : (z0 = (0 : Int32)) → φ x2 μ) 
    (k1 : (¬ (z0 = (0 : Int32))) → J l mX7_afterBlanks (jZ0 1 G (pI φ)) G 0 0 2 [.ref 1, .null, .int (x2 + 1)] [] μ) :
    J l mX7_afterBlanks (jZ0 1 G (pI φ)) G 0 0 19 [.ref 1, .null, .int x2] [.int z0] μ := by
  refine j_if_eq 28 dX7_afterBlanks_19 rfl (by decide) (fun c0 => ?_) (fun c0 => ?_)
  · skip
    refine j_iload_n dX7_afterBlanks_28 rfl rfl ?_
    exact j_iret dX7_afterBlanks_29 rfl (k0 c0)
  · skip
    refine j_iinc (x2 + 1) (ls' := [.ref 1, .null, .int (x2 + 1)]) dX7_afterBlanks_22 rfl rfl rfl (Nat.le_of_ble_eq_true rfl) rfl ?_
    refine j_goto 2 dX7_afterBlanks_25 (by decide) ?_
    exact k1 c0
theorem b_X7_withLetter_0 {l : Launch} {G : jG} {μ : jM} {φ : Int64 → jM → Prop} {x2 : Int32} {x0 : Int64} (hG : gGG G) (hP : gPP μ) 
    (k0 : φ ((x0 * 32) + (Int32.toInt64 ((x2 - 97) + 1))) μ) :
    J l mX7_withLetter (jZ0 0 G (pJ φ)) G 0 0 0 [.long x0, .null, .int x2] [] μ := by
  refine j_lload_n dX7_withLetter_0 rfl rfl ?_
  refine j_ldc2 32 dX7_withLetter_1 rfl ck_X7_83 ?_
  refine j_lmul dX7_withLetter_4 rfl ?_
  refine j_iload_n dX7_withLetter_5 rfl rfl ?_
  refine j_bipush 97 dX7_withLetter_6 rfl (by decide) ?_
  refine j_isub dX7_withLetter_8 rfl ?_
  refine j_iconst 1 dX7_withLetter_9 rfl (by decide) ?_
  refine j_iadd dX7_withLetter_10 rfl ?_
  refine j_i2l dX7_withLetter_11 rfl ?_
  refine j_ladd dX7_withLetter_12 rfl ?_
  exact j_lret dX7_withLetter_13 rfl (k0 )
theorem b_X7_isBlank_0 {l : Launch} {G : jG} {μ : jM} {φ : Int32 → jM → Prop} {x0 : Int32} (hG : gGG G) (hP : gPP μ) 
    (k0 : (x0 = (32 : Int32)) → φ 1 μ) 
    (k1 : (¬ (x0 = (32 : Int32))) → (x0 = (9 : Int32)) → φ 1 μ) 
    (k2 : (¬ (x0 = (32 : Int32))) → (¬ (x0 = (9 : Int32))) → (x0 = (10 : Int32)) → φ 1 μ) 
    (k3 : (¬ (x0 = (32 : Int32))) → (¬ (x0 = (9 : Int32))) → (¬ (x0 = (10 : Int32))) → (¬ x0 = (13 : Int32)) → φ 0 μ) 
    (k4 : (¬ (x0 = (32 : Int32))) → (¬ (x0 = (9 : Int32))) → (¬ (x0 = (10 : Int32))) → (x0 = (13 : Int32)) → φ 1 μ) :
    J l mX7_isBlank (jZ0 0 G (pI φ)) G 0 0 0 [.int x0] [] μ := by
  refine j_iload_n dX7_isBlank_0 rfl rfl ?_
  refine j_bipush 32 dX7_isBlank_1 rfl (by decide) ?_
  refine j_icmp_eq 24 dX7_isBlank_3 rfl (by decide) (fun c0 => ?_) (fun c0 => ?_)
  · skip
    refine j_iconst 1 dX7_isBlank_24 rfl (by decide) ?_
    refine j_goto 29 dX7_isBlank_25 (by decide) ?_
    exact j_zret dX7_isBlank_29 rfl (by decide) (k0 c0)
  · skip
    refine j_iload_n dX7_isBlank_6 rfl rfl ?_
    refine j_bipush 9 dX7_isBlank_7 rfl (by decide) ?_
    refine j_icmp_eq 24 dX7_isBlank_9 rfl (by decide) (fun c1 => ?_) (fun c1 => ?_)
    · skip
      refine j_iconst 1 dX7_isBlank_24 rfl (by decide) ?_
      refine j_goto 29 dX7_isBlank_25 (by decide) ?_
      exact j_zret dX7_isBlank_29 rfl (by decide) (k1 c0 c1)
    · skip
      refine j_iload_n dX7_isBlank_12 rfl rfl ?_
      refine j_bipush 10 dX7_isBlank_13 rfl (by decide) ?_
      refine j_icmp_eq 24 dX7_isBlank_15 rfl (by decide) (fun c2 => ?_) (fun c2 => ?_)
      · skip
        refine j_iconst 1 dX7_isBlank_24 rfl (by decide) ?_
        refine j_goto 29 dX7_isBlank_25 (by decide) ?_
        exact j_zret dX7_isBlank_29 rfl (by decide) (k2 c0 c1 c2)
      · skip
        refine j_iload_n dX7_isBlank_18 rfl rfl ?_
        refine j_bipush 13 dX7_isBlank_19 rfl (by decide) ?_
        refine j_icmp_ne 28 dX7_isBlank_21 rfl (by decide) (fun c3 => ?_) (fun c3 => ?_)
        · skip
          refine j_iconst 0 dX7_isBlank_28 rfl (by decide) ?_
          exact j_zret dX7_isBlank_29 rfl (by decide) (k3 c0 c1 c2 c3)
        · skip
          refine j_iconst 1 dX7_isBlank_24 rfl (by decide) ?_
          refine j_goto 29 dX7_isBlank_25 (by decide) ?_
          exact j_zret dX7_isBlank_29 rfl (by decide) (k4 c0 c1 c2 c3)
theorem b_X7_isLetter_0 {l : Launch} {G : jG} {μ : jM} {φ : Int32 → jM → Prop} {x0 : Int32} (hG : gGG G) (hP : gPP μ) 
    (k0 : (x0 < (97 : Int32)) → φ 0 μ) 
    (k1 : (¬ (x0 < (97 : Int32))) → (122 < (x0 : Int32)) → φ 0 μ) 
    (k2 : (¬ (x0 < (97 : Int32))) → (¬ (122 < (x0 : Int32))) → φ 1 μ) :
    J l mX7_isLetter (jZ0 0 G (pI φ)) G 0 0 0 [.int x0] [] μ := by
  refine j_iload_n dX7_isLetter_0 rfl rfl ?_
  refine j_bipush 97 dX7_isLetter_1 rfl (by decide) ?_
  refine j_icmp_lt 16 dX7_isLetter_3 rfl (by decide) (fun c0 => ?_) (fun c0 => ?_)
  · skip
    refine j_iconst 0 dX7_isLetter_16 rfl (by decide) ?_
    exact j_zret dX7_isLetter_17 rfl (by decide) (k0 c0)
  · skip
    refine j_iload_n dX7_isLetter_6 rfl rfl ?_
    refine j_bipush 122 dX7_isLetter_7 rfl (by decide) ?_
    refine j_icmp_gt 16 dX7_isLetter_9 rfl (by decide) (fun c1 => ?_) (fun c1 => ?_)
    · skip
      refine j_iconst 0 dX7_isLetter_16 rfl (by decide) ?_
      exact j_zret dX7_isLetter_17 rfl (by decide) (k1 c0 c1)
    · skip
      refine j_iconst 1 dX7_isLetter_12 rfl (by decide) ?_
      refine j_goto 17 dX7_isLetter_13 (by decide) ?_
      exact j_zret dX7_isLetter_17 rfl (by decide) (k2 c0 c1)
theorem b_X7_isDigit_0 {l : Launch} {G : jG} {μ : jM} {φ : Int32 → jM → Prop} {x0 : Int32} (hG : gGG G) (hP : gPP μ) 
    (k0 : (x0 < (48 : Int32)) → φ 0 μ) 
    (k1 : (¬ (x0 < (48 : Int32))) → (57 < (x0 : Int32)) → φ 0 μ) 
    (k2 : (¬ (x0 < (48 : Int32))) → (¬ (57 < (x0 : Int32))) → φ 1 μ) :
    J l mX7_isDigit (jZ0 0 G (pI φ)) G 0 0 0 [.int x0] [] μ := by
  refine j_iload_n dX7_isDigit_0 rfl rfl ?_
  refine j_bipush 48 dX7_isDigit_1 rfl (by decide) ?_
  refine j_icmp_lt 16 dX7_isDigit_3 rfl (by decide) (fun c0 => ?_) (fun c0 => ?_)
  · skip
    refine j_iconst 0 dX7_isDigit_16 rfl (by decide) ?_
    exact j_zret dX7_isDigit_17 rfl (by decide) (k0 c0)
  · skip
    refine j_iload_n dX7_isDigit_6 rfl rfl ?_
    refine j_bipush 57 dX7_isDigit_7 rfl (by decide) ?_
    refine j_icmp_gt 16 dX7_isDigit_9 rfl (by decide) (fun c1 => ?_) (fun c1 => ?_)
    · skip
      refine j_iconst 0 dX7_isDigit_16 rfl (by decide) ?_
      exact j_zret dX7_isDigit_17 rfl (by decide) (k1 c0 c1)
    · skip
      refine j_iconst 1 dX7_isDigit_12 rfl (by decide) ?_
      refine j_goto 17 dX7_isDigit_13 (by decide) ?_
      exact j_zret dX7_isDigit_17 rfl (by decide) (k2 c0 c1)
theorem b_X7_isSign_0 {l : Launch} {G : jG} {μ : jM} {φ : Int32 → jM → Prop} {x0 : Int32} (hG : gGG G) (hP : gPP μ) 
    (k0 : (x0 = (40 : Int32)) → φ 1 μ) 
    (k1 : (¬ x0 = (40 : Int32)) → (x0 = (41 : Int32)) → φ 1 μ) 
    (k2 : (¬ x0 = (40 : Int32)) → (¬ x0 = (41 : Int32)) → (x0 = (42 : Int32)) → φ 1 μ) 
    (k3 : (¬ x0 = (40 : Int32)) → (¬ x0 = (41 : Int32)) → (¬ x0 = (42 : Int32)) → (x0 = (43 : Int32)) → φ 1 μ) 
    (k4 : (¬ x0 = (40 : Int32)) → (¬ x0 = (41 : Int32)) → (¬ x0 = (42 : Int32)) → (¬ x0 = (43 : Int32)) → (x0 = (44 : Int32)) → φ 0 μ) 
    (k5 : (¬ x0 = (40 : Int32)) → (¬ x0 = (41 : Int32)) → (¬ x0 = (42 : Int32)) → (¬ x0 = (43 : Int32)) → (¬ x0 = (44 : Int32)) → (x0 = (45 : Int32)) → φ 1 μ) 
    (k6 : (¬ x0 = (40 : Int32)) → (¬ x0 = (41 : Int32)) → (¬ x0 = (42 : Int32)) → (¬ x0 = (43 : Int32)) → (¬ x0 = (44 : Int32)) → (¬ x0 = (45 : Int32)) → (x0 = (46 : Int32)) → φ 0 μ) 
    (k7 : (¬ x0 = (40 : Int32)) → (¬ x0 = (41 : Int32)) → (¬ x0 = (42 : Int32)) → (¬ x0 = (43 : Int32)) → (¬ x0 = (44 : Int32)) → (¬ x0 = (45 : Int32)) → (¬ x0 = (46 : Int32)) → (x0 = (47 : Int32)) → φ 1 μ) 
    (k8 : (¬ x0 = (40 : Int32)) → (¬ x0 = (41 : Int32)) → (¬ x0 = (42 : Int32)) → (¬ x0 = (43 : Int32)) → (¬ x0 = (44 : Int32)) → (¬ x0 = (45 : Int32)) → (¬ x0 = (46 : Int32)) → (¬ x0 = (47 : Int32)) → (x0 = (48 : Int32)) → φ 0 μ) 
    (k9 : (¬ x0 = (40 : Int32)) → (¬ x0 = (41 : Int32)) → (¬ x0 = (42 : Int32)) → (¬ x0 = (43 : Int32)) → (¬ x0 = (44 : Int32)) → (¬ x0 = (45 : Int32)) → (¬ x0 = (46 : Int32)) → (¬ x0 = (47 : Int32)) → (¬ x0 = (48 : Int32)) → (x0 = (49 : Int32)) → φ 0 μ) 
    (k10 : (¬ x0 = (40 : Int32)) → (¬ x0 = (41 : Int32)) → (¬ x0 = (42 : Int32)) → (¬ x0 = (43 : Int32)) → (¬ x0 = (44 : Int32)) → (¬ x0 = (45 : Int32)) → (¬ x0 = (46 : Int32)) → (¬ x0 = (47 : Int32)) → (¬ x0 = (48 : Int32)) → (¬ x0 = (49 : Int32)) → (x0 = (50 : Int32)) → φ 0 μ) 
    (k11 : (¬ x0 = (40 : Int32)) → (¬ x0 = (41 : Int32)) → (¬ x0 = (42 : Int32)) → (¬ x0 = (43 : Int32)) → (¬ x0 = (44 : Int32)) → (¬ x0 = (45 : Int32)) → (¬ x0 = (46 : Int32)) → (¬ x0 = (47 : Int32)) → (¬ x0 = (48 : Int32)) → (¬ x0 = (49 : Int32)) → (¬ x0 = (50 : Int32)) → (x0 = (51 : Int32)) → φ 0 μ) 
    (k12 : (¬ x0 = (40 : Int32)) → (¬ x0 = (41 : Int32)) → (¬ x0 = (42 : Int32)) → (¬ x0 = (43 : Int32)) → (¬ x0 = (44 : Int32)) → (¬ x0 = (45 : Int32)) → (¬ x0 = (46 : Int32)) → (¬ x0 = (47 : Int32)) → (¬ x0 = (48 : Int32)) → (¬ x0 = (49 : Int32)) → (¬ x0 = (50 : Int32)) → (¬ x0 = (51 : Int32)) → (x0 = (52 : Int32)) → φ 0 μ) 
    (k13 : (¬ x0 = (40 : Int32)) → (¬ x0 = (41 : Int32)) → (¬ x0 = (42 : Int32)) → (¬ x0 = (43 : Int32)) → (¬ x0 = (44 : Int32)) → (¬ x0 = (45 : Int32)) → (¬ x0 = (46 : Int32)) → (¬ x0 = (47 : Int32)) → (¬ x0 = (48 : Int32)) → (¬ x0 = (49 : Int32)) → (¬ x0 = (50 : Int32)) → (¬ x0 = (51 : Int32)) → (¬ x0 = (52 : Int32)) → (x0 = (53 : Int32)) → φ 0 μ) 
    (k14 : (¬ x0 = (40 : Int32)) → (¬ x0 = (41 : Int32)) → (¬ x0 = (42 : Int32)) → (¬ x0 = (43 : Int32)) → (¬ x0 = (44 : Int32)) → (¬ x0 = (45 : Int32)) → (¬ x0 = (46 : Int32)) → (¬ x0 = (47 : Int32)) → (¬ x0 = (48 : Int32)) → (¬ x0 = (49 : Int32)) → (¬ x0 = (50 : Int32)) → (¬ x0 = (51 : Int32)) → (¬ x0 = (52 : Int32)) → (¬ x0 = (53 : Int32)) → (x0 = (54 : Int32)) → φ 0 μ) 
    (k15 : (¬ x0 = (40 : Int32)) → (¬ x0 = (41 : Int32)) → (¬ x0 = (42 : Int32)) → (¬ x0 = (43 : Int32)) → (¬ x0 = (44 : Int32)) → (¬ x0 = (45 : Int32)) → (¬ x0 = (46 : Int32)) → (¬ x0 = (47 : Int32)) → (¬ x0 = (48 : Int32)) → (¬ x0 = (49 : Int32)) → (¬ x0 = (50 : Int32)) → (¬ x0 = (51 : Int32)) → (¬ x0 = (52 : Int32)) → (¬ x0 = (53 : Int32)) → (¬ x0 = (54 : Int32)) → (x0 = (55 : Int32)) → φ 0 μ) 
    (k16 : (¬ x0 = (40 : Int32)) → (¬ x0 = (41 : Int32)) → (¬ x0 = (42 : Int32)) → (¬ x0 = (43 : Int32)) → (¬ x0 = (44 : Int32)) → (¬ x0 = (45 : Int32)) → (¬ x0 = (46 : Int32)) → (¬ x0 = (47 : Int32)) → (¬ x0 = (48 : Int32)) → (¬ x0 = (49 : Int32)) → (¬ x0 = (50 : Int32)) → (¬ x0 = (51 : Int32)) → (¬ x0 = (52 : Int32)) → (¬ x0 = (53 : Int32)) → (¬ x0 = (54 : Int32)) → (¬ x0 = (55 : Int32)) → (x0 = (56 : Int32)) → φ 0 μ) 
    (k17 : (¬ x0 = (40 : Int32)) → (¬ x0 = (41 : Int32)) → (¬ x0 = (42 : Int32)) → (¬ x0 = (43 : Int32)) → (¬ x0 = (44 : Int32)) → (¬ x0 = (45 : Int32)) → (¬ x0 = (46 : Int32)) → (¬ x0 = (47 : Int32)) → (¬ x0 = (48 : Int32)) → (¬ x0 = (49 : Int32)) → (¬ x0 = (50 : Int32)) → (¬ x0 = (51 : Int32)) → (¬ x0 = (52 : Int32)) → (¬ x0 = (53 : Int32)) → (¬ x0 = (54 : Int32)) → (¬ x0 = (55 : Int32)) → (¬ x0 = (56 : Int32)) → (x0 = (57 : Int32)) → φ 0 μ) 
    (k18 : (¬ x0 = (40 : Int32)) → (¬ x0 = (41 : Int32)) → (¬ x0 = (42 : Int32)) → (¬ x0 = (43 : Int32)) → (¬ x0 = (44 : Int32)) → (¬ x0 = (45 : Int32)) → (¬ x0 = (46 : Int32)) → (¬ x0 = (47 : Int32)) → (¬ x0 = (48 : Int32)) → (¬ x0 = (49 : Int32)) → (¬ x0 = (50 : Int32)) → (¬ x0 = (51 : Int32)) → (¬ x0 = (52 : Int32)) → (¬ x0 = (53 : Int32)) → (¬ x0 = (54 : Int32)) → (¬ x0 = (55 : Int32)) → (¬ x0 = (56 : Int32)) → (¬ x0 = (57 : Int32)) → (x0 = (58 : Int32)) → φ 0 μ) 
    (k19 : (¬ x0 = (40 : Int32)) → (¬ x0 = (41 : Int32)) → (¬ x0 = (42 : Int32)) → (¬ x0 = (43 : Int32)) → (¬ x0 = (44 : Int32)) → (¬ x0 = (45 : Int32)) → (¬ x0 = (46 : Int32)) → (¬ x0 = (47 : Int32)) → (¬ x0 = (48 : Int32)) → (¬ x0 = (49 : Int32)) → (¬ x0 = (50 : Int32)) → (¬ x0 = (51 : Int32)) → (¬ x0 = (52 : Int32)) → (¬ x0 = (53 : Int32)) → (¬ x0 = (54 : Int32)) → (¬ x0 = (55 : Int32)) → (¬ x0 = (56 : Int32)) → (¬ x0 = (57 : Int32)) → (¬ x0 = (58 : Int32)) → (x0 = (59 : Int32)) → φ 1 μ) 
    (k20 : (¬ x0 = (40 : Int32)) → (¬ x0 = (41 : Int32)) → (¬ x0 = (42 : Int32)) → (¬ x0 = (43 : Int32)) → (¬ x0 = (44 : Int32)) → (¬ x0 = (45 : Int32)) → (¬ x0 = (46 : Int32)) → (¬ x0 = (47 : Int32)) → (¬ x0 = (48 : Int32)) → (¬ x0 = (49 : Int32)) → (¬ x0 = (50 : Int32)) → (¬ x0 = (51 : Int32)) → (¬ x0 = (52 : Int32)) → (¬ x0 = (53 : Int32)) → (¬ x0 = (54 : Int32)) → (¬ x0 = (55 : Int32)) → (¬ x0 = (56 : Int32)) → (¬ x0 = (57 : Int32)) → (¬ x0 = (58 : Int32)) → (¬ x0 = (59 : Int32)) → (x0 = (60 : Int32)) → φ 1 μ) 
    (k21 : (¬ x0 = (40 : Int32)) → (¬ x0 = (41 : Int32)) → (¬ x0 = (42 : Int32)) → (¬ x0 = (43 : Int32)) → (¬ x0 = (44 : Int32)) → (¬ x0 = (45 : Int32)) → (¬ x0 = (46 : Int32)) → (¬ x0 = (47 : Int32)) → (¬ x0 = (48 : Int32)) → (¬ x0 = (49 : Int32)) → (¬ x0 = (50 : Int32)) → (¬ x0 = (51 : Int32)) → (¬ x0 = (52 : Int32)) → (¬ x0 = (53 : Int32)) → (¬ x0 = (54 : Int32)) → (¬ x0 = (55 : Int32)) → (¬ x0 = (56 : Int32)) → (¬ x0 = (57 : Int32)) → (¬ x0 = (58 : Int32)) → (¬ x0 = (59 : Int32)) → (¬ x0 = (60 : Int32)) → (x0 = (61 : Int32)) → φ 1 μ) 
    (k22 : (¬ x0 = (40 : Int32)) → (¬ x0 = (41 : Int32)) → (¬ x0 = (42 : Int32)) → (¬ x0 = (43 : Int32)) → (¬ x0 = (44 : Int32)) → (¬ x0 = (45 : Int32)) → (¬ x0 = (46 : Int32)) → (¬ x0 = (47 : Int32)) → (¬ x0 = (48 : Int32)) → (¬ x0 = (49 : Int32)) → (¬ x0 = (50 : Int32)) → (¬ x0 = (51 : Int32)) → (¬ x0 = (52 : Int32)) → (¬ x0 = (53 : Int32)) → (¬ x0 = (54 : Int32)) → (¬ x0 = (55 : Int32)) → (¬ x0 = (56 : Int32)) → (¬ x0 = (57 : Int32)) → (¬ x0 = (58 : Int32)) → (¬ x0 = (59 : Int32)) → (¬ x0 = (60 : Int32)) → (¬ x0 = (61 : Int32)) → φ 0 μ) :
    J l mX7_isSign (jZ0 0 G (pI φ)) G 0 0 0 [.int x0] [] μ := by
  refine j_iload_n dX7_isSign_0 rfl rfl ?_
  by_cases c0 : x0 = (40 : Int32)
  · skip
    refine j_tableIn (off := 103) 104 dX7_isSign_1 (sw_1 c0 (by decide)) (sw_2 c0 (by decide)) (sw_3 c0 (by decide)) (by decide) ?_
    refine j_iconst 1 dX7_isSign_104 rfl (by decide) ?_
    exact j_zret dX7_isSign_105 rfl (by decide) (k0 c0)
  by_cases c1 : x0 = (41 : Int32)
  · skip
    refine j_tableIn (off := 103) 104 dX7_isSign_1 (sw_1 c1 (by decide)) (sw_2 c1 (by decide)) (sw_3 c1 (by decide)) (by decide) ?_
    refine j_iconst 1 dX7_isSign_104 rfl (by decide) ?_
    exact j_zret dX7_isSign_105 rfl (by decide) (k1 c0 c1)
  by_cases c2 : x0 = (42 : Int32)
  · skip
    refine j_tableIn (off := 103) 104 dX7_isSign_1 (sw_1 c2 (by decide)) (sw_2 c2 (by decide)) (sw_3 c2 (by decide)) (by decide) ?_
    refine j_iconst 1 dX7_isSign_104 rfl (by decide) ?_
    exact j_zret dX7_isSign_105 rfl (by decide) (k2 c0 c1 c2)
  by_cases c3 : x0 = (43 : Int32)
  · skip
    refine j_tableIn (off := 103) 104 dX7_isSign_1 (sw_1 c3 (by decide)) (sw_2 c3 (by decide)) (sw_3 c3 (by decide)) (by decide) ?_
    refine j_iconst 1 dX7_isSign_104 rfl (by decide) ?_
    exact j_zret dX7_isSign_105 rfl (by decide) (k3 c0 c1 c2 c3)
  by_cases c4 : x0 = (44 : Int32)
  · skip
    refine j_tableIn (off := 105) 106 dX7_isSign_1 (sw_1 c4 (by decide)) (sw_2 c4 (by decide)) (sw_3 c4 (by decide)) (by decide) ?_
    refine j_iconst 0 dX7_isSign_106 rfl (by decide) ?_
    exact j_zret dX7_isSign_107 rfl (by decide) (k4 c0 c1 c2 c3 c4)
  by_cases c5 : x0 = (45 : Int32)
  · skip
    refine j_tableIn (off := 103) 104 dX7_isSign_1 (sw_1 c5 (by decide)) (sw_2 c5 (by decide)) (sw_3 c5 (by decide)) (by decide) ?_
    refine j_iconst 1 dX7_isSign_104 rfl (by decide) ?_
    exact j_zret dX7_isSign_105 rfl (by decide) (k5 c0 c1 c2 c3 c4 c5)
  by_cases c6 : x0 = (46 : Int32)
  · skip
    refine j_tableIn (off := 105) 106 dX7_isSign_1 (sw_1 c6 (by decide)) (sw_2 c6 (by decide)) (sw_3 c6 (by decide)) (by decide) ?_
    refine j_iconst 0 dX7_isSign_106 rfl (by decide) ?_
    exact j_zret dX7_isSign_107 rfl (by decide) (k6 c0 c1 c2 c3 c4 c5 c6)
  by_cases c7 : x0 = (47 : Int32)
  · skip
    refine j_tableIn (off := 103) 104 dX7_isSign_1 (sw_1 c7 (by decide)) (sw_2 c7 (by decide)) (sw_3 c7 (by decide)) (by decide) ?_
    refine j_iconst 1 dX7_isSign_104 rfl (by decide) ?_
    exact j_zret dX7_isSign_105 rfl (by decide) (k7 c0 c1 c2 c3 c4 c5 c6 c7)
  by_cases c8 : x0 = (48 : Int32)
  · skip
    refine j_tableIn (off := 105) 106 dX7_isSign_1 (sw_1 c8 (by decide)) (sw_2 c8 (by decide)) (sw_3 c8 (by decide)) (by decide) ?_
    refine j_iconst 0 dX7_isSign_106 rfl (by decide) ?_
    exact j_zret dX7_isSign_107 rfl (by decide) (k8 c0 c1 c2 c3 c4 c5 c6 c7 c8)
  by_cases c9 : x0 = (49 : Int32)
  · skip
    refine j_tableIn (off := 105) 106 dX7_isSign_1 (sw_1 c9 (by decide)) (sw_2 c9 (by decide)) (sw_3 c9 (by decide)) (by decide) ?_
    refine j_iconst 0 dX7_isSign_106 rfl (by decide) ?_
    exact j_zret dX7_isSign_107 rfl (by decide) (k9 c0 c1 c2 c3 c4 c5 c6 c7 c8 c9)
  by_cases c10 : x0 = (50 : Int32)
  · skip
    refine j_tableIn (off := 105) 106 dX7_isSign_1 (sw_1 c10 (by decide)) (sw_2 c10 (by decide)) (sw_3 c10 (by decide)) (by decide) ?_
    refine j_iconst 0 dX7_isSign_106 rfl (by decide) ?_
    exact j_zret dX7_isSign_107 rfl (by decide) (k10 c0 c1 c2 c3 c4 c5 c6 c7 c8 c9 c10)
  by_cases c11 : x0 = (51 : Int32)
  · skip
    refine j_tableIn (off := 105) 106 dX7_isSign_1 (sw_1 c11 (by decide)) (sw_2 c11 (by decide)) (sw_3 c11 (by decide)) (by decide) ?_
    refine j_iconst 0 dX7_isSign_106 rfl (by decide) ?_
    exact j_zret dX7_isSign_107 rfl (by decide) (k11 c0 c1 c2 c3 c4 c5 c6 c7 c8 c9 c10 c11)
  by_cases c12 : x0 = (52 : Int32)
  · skip
    refine j_tableIn (off := 105) 106 dX7_isSign_1 (sw_1 c12 (by decide)) (sw_2 c12 (by decide)) (sw_3 c12 (by decide)) (by decide) ?_
    refine j_iconst 0 dX7_isSign_106 rfl (by decide) ?_
    exact j_zret dX7_isSign_107 rfl (by decide) (k12 c0 c1 c2 c3 c4 c5 c6 c7 c8 c9 c10 c11 c12)
  by_cases c13 : x0 = (53 : Int32)
  · skip
    refine j_tableIn (off := 105) 106 dX7_isSign_1 (sw_1 c13 (by decide)) (sw_2 c13 (by decide)) (sw_3 c13 (by decide)) (by decide) ?_
    refine j_iconst 0 dX7_isSign_106 rfl (by decide) ?_
    exact j_zret dX7_isSign_107 rfl (by decide) (k13 c0 c1 c2 c3 c4 c5 c6 c7 c8 c9 c10 c11 c12 c13)
  by_cases c14 : x0 = (54 : Int32)
  · skip
    refine j_tableIn (off := 105) 106 dX7_isSign_1 (sw_1 c14 (by decide)) (sw_2 c14 (by decide)) (sw_3 c14 (by decide)) (by decide) ?_
    refine j_iconst 0 dX7_isSign_106 rfl (by decide) ?_
    exact j_zret dX7_isSign_107 rfl (by decide) (k14 c0 c1 c2 c3 c4 c5 c6 c7 c8 c9 c10 c11 c12 c13 c14)
  by_cases c15 : x0 = (55 : Int32)
  · skip
    refine j_tableIn (off := 105) 106 dX7_isSign_1 (sw_1 c15 (by decide)) (sw_2 c15 (by decide)) (sw_3 c15 (by decide)) (by decide) ?_
    refine j_iconst 0 dX7_isSign_106 rfl (by decide) ?_
    exact j_zret dX7_isSign_107 rfl (by decide) (k15 c0 c1 c2 c3 c4 c5 c6 c7 c8 c9 c10 c11 c12 c13 c14 c15)
  by_cases c16 : x0 = (56 : Int32)
  · skip
    refine j_tableIn (off := 105) 106 dX7_isSign_1 (sw_1 c16 (by decide)) (sw_2 c16 (by decide)) (sw_3 c16 (by decide)) (by decide) ?_
    refine j_iconst 0 dX7_isSign_106 rfl (by decide) ?_
    exact j_zret dX7_isSign_107 rfl (by decide) (k16 c0 c1 c2 c3 c4 c5 c6 c7 c8 c9 c10 c11 c12 c13 c14 c15 c16)
  by_cases c17 : x0 = (57 : Int32)
  · skip
    refine j_tableIn (off := 105) 106 dX7_isSign_1 (sw_1 c17 (by decide)) (sw_2 c17 (by decide)) (sw_3 c17 (by decide)) (by decide) ?_
    refine j_iconst 0 dX7_isSign_106 rfl (by decide) ?_
    exact j_zret dX7_isSign_107 rfl (by decide) (k17 c0 c1 c2 c3 c4 c5 c6 c7 c8 c9 c10 c11 c12 c13 c14 c15 c16 c17)
  by_cases c18 : x0 = (58 : Int32)
  · skip
    refine j_tableIn (off := 105) 106 dX7_isSign_1 (sw_1 c18 (by decide)) (sw_2 c18 (by decide)) (sw_3 c18 (by decide)) (by decide) ?_
    refine j_iconst 0 dX7_isSign_106 rfl (by decide) ?_
    exact j_zret dX7_isSign_107 rfl (by decide) (k18 c0 c1 c2 c3 c4 c5 c6 c7 c8 c9 c10 c11 c12 c13 c14 c15 c16 c17 c18)
  by_cases c19 : x0 = (59 : Int32)
  · skip
    refine j_tableIn (off := 103) 104 dX7_isSign_1 (sw_1 c19 (by decide)) (sw_2 c19 (by decide)) (sw_3 c19 (by decide)) (by decide) ?_
    refine j_iconst 1 dX7_isSign_104 rfl (by decide) ?_
    exact j_zret dX7_isSign_105 rfl (by decide) (k19 c0 c1 c2 c3 c4 c5 c6 c7 c8 c9 c10 c11 c12 c13 c14 c15 c16 c17 c18 c19)
  by_cases c20 : x0 = (60 : Int32)
  · skip
    refine j_tableIn (off := 103) 104 dX7_isSign_1 (sw_1 c20 (by decide)) (sw_2 c20 (by decide)) (sw_3 c20 (by decide)) (by decide) ?_
    refine j_iconst 1 dX7_isSign_104 rfl (by decide) ?_
    exact j_zret dX7_isSign_105 rfl (by decide) (k20 c0 c1 c2 c3 c4 c5 c6 c7 c8 c9 c10 c11 c12 c13 c14 c15 c16 c17 c18 c19 c20)
  by_cases c21 : x0 = (61 : Int32)
  · skip
    refine j_tableIn (off := 103) 104 dX7_isSign_1 (sw_1 c21 (by decide)) (sw_2 c21 (by decide)) (sw_3 c21 (by decide)) (by decide) ?_
    refine j_iconst 1 dX7_isSign_104 rfl (by decide) ?_
    exact j_zret dX7_isSign_105 rfl (by decide) (k21 c0 c1 c2 c3 c4 c5 c6 c7 c8 c9 c10 c11 c12 c13 c14 c15 c16 c17 c18 c19 c20 c21)
  refine j_tableOut 106 dX7_isSign_1 (sw_o [40, 41, 42, 43, 44, 45, 46, 47, 48, 49, 50, 51, 52, 53, 54, 55, 56, 57, 58, 59, 60, 61] (by decide) ⟨c0, c1, c2, c3, c4, c5, c6, c7, c8, c9, c10, c11, c12, c13, c14, c15, c16, c17, c18, c19, c20, c21, trivial⟩) (by decide) ?_
  refine j_iconst 0 dX7_isSign_106 rfl (by decide) ?_
  exact j_zret dX7_isSign_107 rfl (by decide) (k22 c0 c1 c2 c3 c4 c5 c6 c7 c8 c9 c10 c11 c12 c13 c14 c15 c16 c17 c18 c19 c20 c21)
