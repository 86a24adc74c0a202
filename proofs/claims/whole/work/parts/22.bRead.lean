theorem b_X4_readInto_0 {l : Launch} {G : jG} {μ : jM} {φ : Int32 → jM → Prop} {dr : Nat} (hG : gGG G) (hP : gPP μ) (hdr : tO gTold pTold G μ dr) 
    (k0 : J l mX4_readInto (jZ0 6 G (pI φ)) G 0 0 5 [.ref 3, .null, .ref 1, .null] [] (wP μ 3 7 (some dr))) :
    J l mX4_readInto (jZ0 6 G (pI φ)) G 0 0 0 [.ref 3, .ref dr, .ref 1, .null] [] μ := by
  refine j_aload_n dX4_readInto_0 rfl rfl ?_
  refine j_aload_n dX4_readInto_1 rfl rfl ?_
  refine j_putR (ci := 4) (N := 13) (f := 7) (T := TX4) dX4_readInto_2 rfl (hG 3 (9, 13) rfl) rfl (by decide) fl_X4_29 rfl rfl ?_
  refine j_forget (ls' := [.ref 3, .null, .ref 1, .null]) ⟨Or.inr rfl, Or.inl rfl, Or.inr rfl, Or.inr rfl, trivial⟩ ?_
  exact k0 
theorem b_X4_readInto_5 {l : Launch} {G : jG} {μ : jM} {φ : Int32 → jM → Prop} {ψ0 : jM → Prop} {dr : Nat} (hG : gGG G) (hP : gPP μ) (hdr : tO gTold pTold G μ dr) (q3_7 : μ.2.2 3 7 = some dr) 
    (e0 : jC0 l mX8_clear 2 G [.ref dr] μ (pV ψ0)) 
    (k0 : ∀ μ', ψ0 μ' → J l mX4_readInto (jZ0 6 G (pI φ)) G 0 0 12 [.ref 3, .null, .ref 1, .null] [] μ') :
    J l mX4_readInto (jZ0 6 G (pI φ)) G 0 0 5 [.ref 3, .null, .ref 1, .null] [] μ := by
  refine j_aload_n dX4_readInto_5 rfl rfl ?_
  refine j_getR (ci := 4) (N := 13) (f := 7) (T := TX4) dr dX4_readInto_6 rfl (hG 3 (9, 13) rfl) rfl (by decide) fl_X4_29 rfl q3_7 ?_
  refine j_cV (as := []) (rest := []) dX4_readInto_9 rfl vw_X4_33 (hdr.1 0 (13, 20) rfl) rfl ⟨Nat.le_of_ble_eq_true rfl, Nat.le_of_ble_eq_true rfl⟩ rfl rfl (fun _ _ => Nat.le_of_ble_eq_true rfl) (e0 ) (fun r μ' hr => ?_)
  obtain ⟨rfl, hr⟩ := hr
  exact k0  μ' hr
theorem b_X4_readInto_12 {l : Launch} {G : jG} {μ : jM} {φ : Int32 → jM → Prop} {ψ0 : jM → Prop} (hG : gGG G) (hP : gPP μ) 
    (e0 : jC0 l mX7_scan 3 G [.ref 4, .ref 1] μ (pV ψ0)) 
    (k0 : ∀ μ', ψ0 μ' → J l mX4_readInto (jZ0 6 G (pI φ)) G 0 0 20 [.ref 3, .null, .null, .null] [] μ') :
    J l mX4_readInto (jZ0 6 G (pI φ)) G 0 0 12 [.ref 3, .null, .ref 1, .null] [] μ := by
  refine j_aload_n dX4_readInto_12 rfl rfl ?_
  refine j_getR (ci := 4) (N := 13) (f := 1) (T := TX4) 4 dX4_readInto_13 rfl (hG 3 (9, 13) rfl) rfl (by decide) fl_X4_12 rfl (hP 3 1 4 rfl) ?_
  refine j_aload_n dX4_readInto_16 rfl rfl ?_
  refine j_cV (as := [.ref 1]) (rest := []) dX4_readInto_17 rfl vw_X4_38 (hG 4 (12, 4) rfl) rfl ⟨Nat.le_of_ble_eq_true rfl, Nat.le_of_ble_eq_true rfl⟩ rfl rfl (fun _ _ => Nat.le_of_ble_eq_true rfl) (e0 ) (fun r μ' hr => ?_)
  obtain ⟨rfl, hr⟩ := hr
  refine j_forget (ls' := [.ref 3, .null, .null, .null]) ⟨Or.inr rfl, Or.inr rfl, Or.inl rfl, Or.inr rfl, trivial⟩ ?_
  exact k0  μ' hr
theorem b_X4_readInto_20 {l : Launch} {G : jG} {μ : jM} {φ : Int32 → jM → Prop} (hG : gGG G) (hP : gPP μ) 
    (k0 : J l mX4_readInto (jZ0 6 G (pI φ)) G 0 0 37 [.ref 3, .null, .null, .int 0] [] (wI (wI (wI μ 3 8 0) 3 9 0) 3 11 0)) :
    J l mX4_readInto (jZ0 6 G (pI φ)) G 0 0 20 [.ref 3, .null, .null, .null] [] μ := by
  refine j_aload_n dX4_readInto_20 rfl rfl ?_
  refine j_iconst 0 dX4_readInto_21 rfl (by decide) ?_
  refine j_putI (ci := 4) (N := 13) (f := 8) (T := TX4) dX4_readInto_22 rfl (hG 3 (9, 13) rfl) rfl (by decide) fl_X4_42 rfl rfl ?_
  refine j_aload_n dX4_readInto_25 rfl rfl ?_
  refine j_iconst 0 dX4_readInto_26 rfl (by decide) ?_
  refine j_putI (ci := 4) (N := 13) (f := 9) (T := TX4) dX4_readInto_27 rfl (hG 3 (9, 13) rfl) rfl (by decide) fl_X4_46 rfl rfl ?_
  refine j_aload_n dX4_readInto_30 rfl rfl ?_
  refine j_iconst 0 dX4_readInto_31 rfl (by decide) ?_
  refine j_putI (ci := 4) (N := 13) (f := 11) (T := TX4) dX4_readInto_32 rfl (hG 3 (9, 13) rfl) rfl (by decide) fl_X4_49 rfl rfl ?_
  refine j_iconst 0 dX4_readInto_35 rfl (by decide) ?_
  refine j_istore_n (ls' := [.ref 3, .null, .null, .int 0]) dX4_readInto_36 rfl rfl (Nat.le_of_ble_eq_true rfl) rfl ?_
  exact k0 
theorem b_X4_readInto_37 {l : Launch} {G : jG} {μ : jM} {φ : Int32 → jM → Prop} {x3 : Int32} {ψ3 : Int32 → jM → Prop} (hG : gGG G) (hP : gPP μ) 
    (k0 : (400 ≤ (x3 : Int32)) → ((μ.1 3 9) = (0 : Int32)) → ((μ.1 3 11) = (0 : Int32)) → φ (μ.1 3 11) (wI μ 3 0 (-1))) 
    (k1 : (400 ≤ (x3 : Int32)) → ((μ.1 3 9) = (0 : Int32)) → (¬ ((μ.1 3 11) = (0 : Int32))) → φ (μ.1 3 11) (wI μ 3 0 (μ.1 3 12))) 
    (k2 : (400 ≤ (x3 : Int32)) → (¬ ((μ.1 3 9) = (0 : Int32))) → φ (μ.1 3 9) (wI μ 3 0 (μ.1 3 10))) 
    (e3 : (¬ (400 ≤ (x3 : Int32))) → jC0 l mX4_kindHere 0 G [.ref 3] μ (pI ψ3)) 
    (k3 : (¬ (400 ≤ (x3 : Int32))) → ∀ v μ', ψ3 v μ' → J l mX4_readInto (jZ0 6 G (pI φ)) G 0 0 48 [.ref 3, .null, .null, .int x3] [.int v] μ') :
    J l mX4_readInto (jZ0 6 G (pI φ)) G 0 0 37 [.ref 3, .null, .null, .int x3] [] μ := by
  refine j_iload_n dX4_readInto_37 rfl rfl ?_
  refine j_sipush 400 dX4_readInto_38 rfl (by decide) ?_
  refine j_icmp_ge 61 dX4_readInto_41 rfl (by decide) (fun c0 => ?_) (fun c0 => ?_)
  · skip
    refine j_aload_n dX4_readInto_61 rfl rfl ?_
    refine j_getI (ci := 4) (N := 13) (f := 9) (T := TX4) dX4_readInto_62 rfl (hG 3 (9, 13) rfl) rfl (by decide) fl_X4_46 rfl ?_
    refine j_if_eq 81 dX4_readInto_65 rfl (by decide) (fun c1 => ?_) (fun c1 => ?_)
    · skip
      refine j_aload_n dX4_readInto_81 rfl rfl ?_
      refine j_aload_n dX4_readInto_82 rfl rfl ?_
      refine j_getI (ci := 4) (N := 13) (f := 11) (T := TX4) dX4_readInto_83 rfl (hG 3 (9, 13) rfl) rfl (by decide) fl_X4_49 rfl ?_
      refine j_if_eq 96 dX4_readInto_86 rfl (by decide) (fun c2 => ?_) (fun c2 => ?_)
      · skip
        refine j_iconst (-1) dX4_readInto_96 rfl (by decide) ?_
        refine j_putI (ci := 4) (N := 13) (f := 0) (T := TX4) dX4_readInto_97 rfl (hG 3 (9, 13) rfl) rfl (by decide) fl_X4_62 rfl rfl ?_
        refine j_aload_n dX4_readInto_100 rfl rfl ?_
        refine j_getI (ci := 4) (N := 13) (f := 11) (T := TX4) dX4_readInto_101 rfl (hG 3 (9, 13) rfl) rfl (by decide) fl_X4_49 rfl ?_
        exact j_iret dX4_readInto_104 rfl (k0 c0 c1 c2)
      · skip
        refine j_aload_n dX4_readInto_89 rfl rfl ?_
        refine j_getI (ci := 4) (N := 13) (f := 12) (T := TX4) dX4_readInto_90 rfl (hG 3 (9, 13) rfl) rfl (by decide) fl_X4_65 rfl ?_
        refine j_goto 97 dX4_readInto_93 (by decide) ?_
        refine j_putI (ci := 4) (N := 13) (f := 0) (T := TX4) dX4_readInto_97 rfl (hG 3 (9, 13) rfl) rfl (by decide) fl_X4_62 rfl rfl ?_
        refine j_aload_n dX4_readInto_100 rfl rfl ?_
        refine j_getI (ci := 4) (N := 13) (f := 11) (T := TX4) dX4_readInto_101 rfl (hG 3 (9, 13) rfl) rfl (by decide) fl_X4_49 rfl ?_
        exact j_iret dX4_readInto_104 rfl (k1 c0 c1 c2)
    · skip
      refine j_aload_n dX4_readInto_68 rfl rfl ?_
      refine j_aload_n dX4_readInto_69 rfl rfl ?_
      refine j_getI (ci := 4) (N := 13) (f := 10) (T := TX4) dX4_readInto_70 rfl (hG 3 (9, 13) rfl) rfl (by decide) fl_X4_59 rfl ?_
      refine j_putI (ci := 4) (N := 13) (f := 0) (T := TX4) dX4_readInto_73 rfl (hG 3 (9, 13) rfl) rfl (by decide) fl_X4_62 rfl rfl ?_
      refine j_aload_n dX4_readInto_76 rfl rfl ?_
      refine j_getI (ci := 4) (N := 13) (f := 9) (T := TX4) dX4_readInto_77 rfl (hG 3 (9, 13) rfl) rfl (by decide) fl_X4_46 rfl ?_
      exact j_iret dX4_readInto_80 rfl (k2 c0 c1)
  · skip
    refine j_aload_n dX4_readInto_44 rfl rfl ?_
    refine j_cV (as := []) (rest := []) dX4_readInto_45 rfl vw_X4_52 (hG 3 (9, 13) rfl) rfl ⟨Nat.le_of_ble_eq_true rfl, Nat.le_of_ble_eq_true rfl⟩ rfl rfl (fun _ _ => Nat.le_of_ble_eq_true rfl) (e3 c0) (fun r μ' hr => ?_)
    obtain ⟨v, rfl, hr⟩ := hr
    exact k3 c0 v μ' hr
theorem b_X4_readInto_48 {l : Launch} {G : jG} {μ : jM} {φ : Int32 → jM → Prop} {x3 z0 : Int32} {ψ3 : jM → Prop} (hG : gGG G) (hP : gPP μ) 
    (k0 : (z0 ≤ (0 : Int32)) → ((μ.1 3 9) = (0 : Int32)) → ((μ.1 3 11) = (0 : Int32)) → φ (μ.1 3 11) (wI μ 3 0 (-1))) 
    (k1 : (z0 ≤ (0 : Int32)) → ((μ.1 3 9) = (0 : Int32)) → (¬ ((μ.1 3 11) = (0 : Int32))) → φ (μ.1 3 11) (wI μ 3 0 (μ.1 3 12))) 
    (k2 : (z0 ≤ (0 : Int32)) → (¬ ((μ.1 3 9) = (0 : Int32))) → φ (μ.1 3 9) (wI μ 3 0 (μ.1 3 10))) 
    (e3 : (¬ (z0 ≤ (0 : Int32))) → jC0 l mX4_readTelling 5 G [.ref 3] μ (pV ψ3)) 
    (k3 : (¬ (z0 ≤ (0 : Int32))) → ∀ μ', ψ3 μ' → J l mX4_readInto (jZ0 6 G (pI φ)) G 0 0 55 [.ref 3, .null, .null, .int x3] [] μ') :
    J l mX4_readInto (jZ0 6 G (pI φ)) G 0 0 48 [.ref 3, .null, .null, .int x3] [.int z0] μ := by
  refine j_if_le 61 dX4_readInto_48 rfl (by decide) (fun c0 => ?_) (fun c0 => ?_)
  · skip
    refine j_aload_n dX4_readInto_61 rfl rfl ?_
    refine j_getI (ci := 4) (N := 13) (f := 9) (T := TX4) dX4_readInto_62 rfl (hG 3 (9, 13) rfl) rfl (by decide) fl_X4_46 rfl ?_
    refine j_if_eq 81 dX4_readInto_65 rfl (by decide) (fun c1 => ?_) (fun c1 => ?_)
    · skip
      refine j_aload_n dX4_readInto_81 rfl rfl ?_
      refine j_aload_n dX4_readInto_82 rfl rfl ?_
      refine j_getI (ci := 4) (N := 13) (f := 11) (T := TX4) dX4_readInto_83 rfl (hG 3 (9, 13) rfl) rfl (by decide) fl_X4_49 rfl ?_
      refine j_if_eq 96 dX4_readInto_86 rfl (by decide) (fun c2 => ?_) (fun c2 => ?_)
      · skip
        refine j_iconst (-1) dX4_readInto_96 rfl (by decide) ?_
        refine j_putI (ci := 4) (N := 13) (f := 0) (T := TX4) dX4_readInto_97 rfl (hG 3 (9, 13) rfl) rfl (by decide) fl_X4_62 rfl rfl ?_
        refine j_aload_n dX4_readInto_100 rfl rfl ?_
        refine j_getI (ci := 4) (N := 13) (f := 11) (T := TX4) dX4_readInto_101 rfl (hG 3 (9, 13) rfl) rfl (by decide) fl_X4_49 rfl ?_
        exact j_iret dX4_readInto_104 rfl (k0 c0 c1 c2)
      · skip
        refine j_aload_n dX4_readInto_89 rfl rfl ?_
        refine j_getI (ci := 4) (N := 13) (f := 12) (T := TX4) dX4_readInto_90 rfl (hG 3 (9, 13) rfl) rfl (by decide) fl_X4_65 rfl ?_
        refine j_goto 97 dX4_readInto_93 (by decide) ?_
        refine j_putI (ci := 4) (N := 13) (f := 0) (T := TX4) dX4_readInto_97 rfl (hG 3 (9, 13) rfl) rfl (by decide) fl_X4_62 rfl rfl ?_
        refine j_aload_n dX4_readInto_100 rfl rfl ?_
        refine j_getI (ci := 4) (N := 13) (f := 11) (T := TX4) dX4_readInto_101 rfl (hG 3 (9, 13) rfl) rfl (by decide) fl_X4_49 rfl ?_
        exact j_iret dX4_readInto_104 rfl (k1 c0 c1 c2)
    · skip
      refine j_aload_n dX4_readInto_68 rfl rfl ?_
      refine j_aload_n dX4_readInto_69 rfl rfl ?_
      refine j_getI (ci := 4) (N := 13) (f := 10) (T := TX4) dX4_readInto_70 rfl (hG 3 (9, 13) rfl) rfl (by decide) fl_X4_59 rfl ?_
      refine j_putI (ci := 4) (N := 13) (f := 0) (T := TX4) dX4_readInto_73 rfl (hG 3 (9, 13) rfl) rfl (by decide) fl_X4_62 rfl rfl ?_
      refine j_aload_n dX4_readInto_76 rfl rfl ?_
      refine j_getI (ci := 4) (N := 13) (f := 9) (T := TX4) dX4_readInto_77 rfl (hG 3 (9, 13) rfl) rfl (by decide) fl_X4_46 rfl ?_
      exact j_iret dX4_readInto_80 rfl (k2 c0 c1)
  · skip
    refine j_aload_n dX4_readInto_51 rfl rfl ?_
    refine j_cV (as := []) (rest := []) dX4_readInto_52 rfl vw_X4_56 (hG 3 (9, 13) rfl) rfl ⟨Nat.le_of_ble_eq_true rfl, Nat.le_of_ble_eq_true rfl⟩ rfl rfl (fun _ _ => Nat.le_of_ble_eq_true rfl) (e3 c0) (fun r μ' hr => ?_)
    obtain ⟨rfl, hr⟩ := hr
    exact k3 c0 μ' hr
theorem b_X4_readInto_55 {l : Launch} {G : jG} {μ : jM} {φ : Int32 → jM → Prop} {x3 : Int32} (hG : gGG G) (hP : gPP μ) 
    (k0 : J l mX4_readInto (jZ0 6 G (pI φ)) G 0 0 37 [.ref 3, .null, .null, .int (x3 + 1)] [] μ) :
    J l mX4_readInto (jZ0 6 G (pI φ)) G 0 0 55 [.ref 3, .null, .null, .int x3] [] μ := by
  refine j_iinc (x3 + 1) (ls' := [.ref 3, .null, .null, .int (x3 + 1)]) dX4_readInto_55 rfl rfl rfl (Nat.le_of_ble_eq_true rfl) rfl ?_
  refine j_goto 37 dX4_readInto_58 (by decide) ?_
  exact k0 
theorem b_X4_readTelling_0 {l : Launch} {G : jG} {μ : jM} {φ : jM → Prop} {ψ0 : Int32 → jM → Prop} (hG : gGG G) (hP : gPP μ) 
    (e0 : jC0 l mX4_kindHere 0 G [.ref 3] μ (pI ψ0)) 
    (k0 : ∀ v μ', ψ0 v μ' → J l mX4_readTelling (jZ0 5 G (pV φ)) G 0 0 4 [.ref 3] [.int v] μ') :
    J l mX4_readTelling (jZ0 5 G (pV φ)) G 0 0 0 [.ref 3] [] μ := by
  refine j_aload_n dX4_readTelling_0 rfl rfl ?_
  refine j_cV (as := []) (rest := []) dX4_readTelling_1 rfl vw_X4_52 (hG 3 (9, 13) rfl) rfl ⟨Nat.le_of_ble_eq_true rfl, Nat.le_of_ble_eq_true rfl⟩ rfl rfl (fun _ _ => Nat.le_of_ble_eq_true rfl) (e0 ) (fun r μ' hr => ?_)
  obtain ⟨v, rfl, hr⟩ := hr
  exact k0  v μ' hr
theorem b_X4_readTelling_4 {l : Launch} {G : jG} {μ : jM} {φ : jM → Prop} {z0 : Int32} {ψ0 : jM → Prop} {ψ1 : jM → Prop} {ψ2 : jM → Prop} {ψ3 : jM → Prop} {ψ4 : jM → Prop} {ψ5 : jM → Prop} {ψ6 : jM → Prop} {ψ7 : jM → Prop} {ψ8 : jM → Prop} {ψ9 : jM → Prop} {ψ10 : jM → Prop} {ψ11 : jM → Prop} {dr : Nat} (hG : gGG G) (hP : gPP μ) (hdr : tO gTold pTold G μ dr) (q3_7 : μ.2.2 3 7 = some dr) 
    (e0 : (z0 = (128 : Int32)) → jC0 l mX4_readPlace 4 G [.ref 3] μ (pV ψ0)) 
    (k0 : (z0 = (128 : Int32)) → ∀ μ', ψ0 μ' → J l mX4_readTelling (jZ0 5 G (pV φ)) G 0 0 68 [.ref 3] [] μ') 
    (e1 : (¬ z0 = (128 : Int32)) → (z0 = (129 : Int32)) → jC0 l mX4_readRoad 4 G [.ref 3] μ (pV ψ1)) 
    (k1 : (¬ z0 = (128 : Int32)) → (z0 = (129 : Int32)) → ∀ μ', ψ1 μ' → J l mX4_readTelling (jZ0 5 G (pV φ)) G 0 0 75 [.ref 3] [] μ') 
    (e2 : (¬ z0 = (128 : Int32)) → (¬ z0 = (129 : Int32)) → (z0 = (130 : Int32)) → jC0 l mX4_failHere 0 G [.ref 3, .int 1] μ (pV ψ2)) 
    (k2 : (¬ z0 = (128 : Int32)) → (¬ z0 = (129 : Int32)) → (z0 = (130 : Int32)) → ∀ μ', ψ2 μ' → J l mX4_readTelling (jZ0 5 G (pV φ)) G 0 0 210 [.ref 3] [] μ') 
    (e3 : (¬ z0 = (128 : Int32)) → (¬ z0 = (129 : Int32)) → (¬ z0 = (130 : Int32)) → (z0 = (131 : Int32)) → jC0 l mX4_failHere 0 G [.ref 3, .int 1] μ (pV ψ3)) 
    (k3 : (¬ z0 = (128 : Int32)) → (¬ z0 = (129 : Int32)) → (¬ z0 = (130 : Int32)) → (z0 = (131 : Int32)) → ∀ μ', ψ3 μ' → J l mX4_readTelling (jZ0 5 G (pV φ)) G 0 0 210 [.ref 3] [] μ') 
    (e4 : (¬ z0 = (128 : Int32)) → (¬ z0 = (129 : Int32)) → (¬ z0 = (130 : Int32)) → (¬ z0 = (131 : Int32)) → (z0 = (132 : Int32)) → jC0 l mX4_readGhost 4 G [.ref 3] μ (pV ψ4)) 
    (k4 : (¬ z0 = (128 : Int32)) → (¬ z0 = (129 : Int32)) → (¬ z0 = (130 : Int32)) → (¬ z0 = (131 : Int32)) → (z0 = (132 : Int32)) → ∀ μ', ψ4 μ' → J l mX4_readTelling (jZ0 5 G (pV φ)) G 0 0 82 [.ref 3] [] μ') 
    (e5 : (¬ z0 = (128 : Int32)) → (¬ z0 = (129 : Int32)) → (¬ z0 = (130 : Int32)) → (¬ z0 = (131 : Int32)) → (¬ z0 = (132 : Int32)) → (z0 = (133 : Int32)) → jC0 l mX4_readLaw 4 G [.ref 3, .ref (dr + 9)] μ (pV ψ5)) 
    (k5 : (¬ z0 = (128 : Int32)) → (¬ z0 = (129 : Int32)) → (¬ z0 = (130 : Int32)) → (¬ z0 = (131 : Int32)) → (¬ z0 = (132 : Int32)) → (z0 = (133 : Int32)) → ∀ μ', ψ5 μ' → J l mX4_readTelling (jZ0 5 G (pV φ)) G 0 0 96 [.ref 3] [] μ') 
    (e6 : (¬ z0 = (128 : Int32)) → (¬ z0 = (129 : Int32)) → (¬ z0 = (130 : Int32)) → (¬ z0 = (131 : Int32)) → (¬ z0 = (132 : Int32)) → (¬ z0 = (133 : Int32)) → (z0 = (134 : Int32)) → jC0 l mX4_readLaw 4 G [.ref 3, .ref (dr + 13)] μ (pV ψ6)) 
    (k6 : (¬ z0 = (128 : Int32)) → (¬ z0 = (129 : Int32)) → (¬ z0 = (130 : Int32)) → (¬ z0 = (131 : Int32)) → (¬ z0 = (132 : Int32)) → (¬ z0 = (133 : Int32)) → (z0 = (134 : Int32)) → ∀ μ', ψ6 μ' → J l mX4_readTelling (jZ0 5 G (pV φ)) G 0 0 110 [.ref 3] [] μ') 
    (e7 : (¬ z0 = (128 : Int32)) → (¬ z0 = (129 : Int32)) → (¬ z0 = (130 : Int32)) → (¬ z0 = (131 : Int32)) → (¬ z0 = (132 : Int32)) → (¬ z0 = (133 : Int32)) → (¬ z0 = (134 : Int32)) → (z0 = (135 : Int32)) → jC0 l mX4_readLaw 4 G [.ref 3, .ref (dr + 17)] μ (pV ψ7)) 
    (k7 : (¬ z0 = (128 : Int32)) → (¬ z0 = (129 : Int32)) → (¬ z0 = (130 : Int32)) → (¬ z0 = (131 : Int32)) → (¬ z0 = (132 : Int32)) → (¬ z0 = (133 : Int32)) → (¬ z0 = (134 : Int32)) → (z0 = (135 : Int32)) → ∀ μ', ψ7 μ' → J l mX4_readTelling (jZ0 5 G (pV φ)) G 0 0 124 [.ref 3] [] μ') 
    (e8 : (¬ z0 = (128 : Int32)) → (¬ z0 = (129 : Int32)) → (¬ z0 = (130 : Int32)) → (¬ z0 = (131 : Int32)) → (¬ z0 = (132 : Int32)) → (¬ z0 = (133 : Int32)) → (¬ z0 = (134 : Int32)) → (¬ z0 = (135 : Int32)) → (z0 = (136 : Int32)) → jC0 l mX4_take 1 G [.ref 3] μ (pV ψ8)) 
    (k8 : (¬ z0 = (128 : Int32)) → (¬ z0 = (129 : Int32)) → (¬ z0 = (130 : Int32)) → (¬ z0 = (131 : Int32)) → (¬ z0 = (132 : Int32)) → (¬ z0 = (133 : Int32)) → (¬ z0 = (134 : Int32)) → (¬ z0 = (135 : Int32)) → (z0 = (136 : Int32)) → ∀ μ', ψ8 μ' → J l mX4_readTelling (jZ0 5 G (pV φ)) G 0 0 131 [.ref 3] [] μ') 
    (e9 : (¬ z0 = (128 : Int32)) → (¬ z0 = (129 : Int32)) → (¬ z0 = (130 : Int32)) → (¬ z0 = (131 : Int32)) → (¬ z0 = (132 : Int32)) → (¬ z0 = (133 : Int32)) → (¬ z0 = (134 : Int32)) → (¬ z0 = (135 : Int32)) → (¬ z0 = (136 : Int32)) → (z0 = (137 : Int32)) → jC0 l mX4_take 1 G [.ref 3] μ (pV ψ9)) 
    (k9 : (¬ z0 = (128 : Int32)) → (¬ z0 = (129 : Int32)) → (¬ z0 = (130 : Int32)) → (¬ z0 = (131 : Int32)) → (¬ z0 = (132 : Int32)) → (¬ z0 = (133 : Int32)) → (¬ z0 = (134 : Int32)) → (¬ z0 = (135 : Int32)) → (¬ z0 = (136 : Int32)) → (z0 = (137 : Int32)) → ∀ μ', ψ9 μ' → J l mX4_readTelling (jZ0 5 G (pV φ)) G 0 0 152 [.ref 3] [] μ') 
    (e10 : (¬ z0 = (128 : Int32)) → (¬ z0 = (129 : Int32)) → (¬ z0 = (130 : Int32)) → (¬ z0 = (131 : Int32)) → (¬ z0 = (132 : Int32)) → (¬ z0 = (133 : Int32)) → (¬ z0 = (134 : Int32)) → (¬ z0 = (135 : Int32)) → (¬ z0 = (136 : Int32)) → (¬ z0 = (137 : Int32)) → (z0 = (138 : Int32)) → jC0 l mX4_take 1 G [.ref 3] μ (pV ψ10)) 
    (k10 : (¬ z0 = (128 : Int32)) → (¬ z0 = (129 : Int32)) → (¬ z0 = (130 : Int32)) → (¬ z0 = (131 : Int32)) → (¬ z0 = (132 : Int32)) → (¬ z0 = (133 : Int32)) → (¬ z0 = (134 : Int32)) → (¬ z0 = (135 : Int32)) → (¬ z0 = (136 : Int32)) → (¬ z0 = (137 : Int32)) → (z0 = (138 : Int32)) → ∀ μ', ψ10 μ' → J l mX4_readTelling (jZ0 5 G (pV φ)) G 0 0 187 [.ref 3] [] μ') 
    (e11 : (¬ z0 = (128 : Int32)) → (¬ z0 = (129 : Int32)) → (¬ z0 = (130 : Int32)) → (¬ z0 = (131 : Int32)) → (¬ z0 = (132 : Int32)) → (¬ z0 = (133 : Int32)) → (¬ z0 = (134 : Int32)) → (¬ z0 = (135 : Int32)) → (¬ z0 = (136 : Int32)) → (¬ z0 = (137 : Int32)) → (¬ z0 = (138 : Int32)) → jC0 l mX4_failHere 0 G [.ref 3, .int 1] μ (pV ψ11)) 
    (k11 : (¬ z0 = (128 : Int32)) → (¬ z0 = (129 : Int32)) → (¬ z0 = (130 : Int32)) → (¬ z0 = (131 : Int32)) → (¬ z0 = (132 : Int32)) → (¬ z0 = (133 : Int32)) → (¬ z0 = (134 : Int32)) → (¬ z0 = (135 : Int32)) → (¬ z0 = (136 : Int32)) → (¬ z0 = (137 : Int32)) → (¬ z0 = (138 : Int32)) → ∀ μ', ψ11 μ' → J l mX4_readTelling (jZ0 5 G (pV φ)) G 0 0 210 [.ref 3] [] μ') :
    J l mX4_readTelling (jZ0 5 G (pV φ)) G 0 0 4 [.ref 3] [.int z0] μ := by
  by_cases c0 : z0 = (128 : Int32)
  · skip
    refine j_tableIn (off := 60) 64 dX4_readTelling_4 (sw_1 c0 (by decide)) (sw_2 c0 (by decide)) (sw_3 c0 (by decide)) (by decide) ?_
    refine j_aload_n dX4_readTelling_64 rfl rfl ?_
    refine j_cV (as := []) (rest := []) dX4_readTelling_65 rfl vw_X4_68 (hG 3 (9, 13) rfl) rfl ⟨Nat.le_of_ble_eq_true rfl, Nat.le_of_ble_eq_true rfl⟩ rfl rfl (fun _ _ => Nat.le_of_ble_eq_true rfl) (e0 c0) (fun r μ' hr => ?_)
    obtain ⟨rfl, hr⟩ := hr
    exact k0 c0 μ' hr
  by_cases c1 : z0 = (129 : Int32)
  · skip
    refine j_tableIn (off := 67) 71 dX4_readTelling_4 (sw_1 c1 (by decide)) (sw_2 c1 (by decide)) (sw_3 c1 (by decide)) (by decide) ?_
    refine j_aload_n dX4_readTelling_71 rfl rfl ?_
    refine j_cV (as := []) (rest := []) dX4_readTelling_72 rfl vw_X4_71 (hG 3 (9, 13) rfl) rfl ⟨Nat.le_of_ble_eq_true rfl, Nat.le_of_ble_eq_true rfl⟩ rfl rfl (fun _ _ => Nat.le_of_ble_eq_true rfl) (e1 c0 c1) (fun r μ' hr => ?_)
    obtain ⟨rfl, hr⟩ := hr
    exact k1 c0 c1 μ' hr
  by_cases c2 : z0 = (130 : Int32)
  · skip
    refine j_tableIn (off := 201) 205 dX4_readTelling_4 (sw_1 c2 (by decide)) (sw_2 c2 (by decide)) (sw_3 c2 (by decide)) (by decide) ?_
    refine j_aload_n dX4_readTelling_205 rfl rfl ?_
    refine j_iconst 1 dX4_readTelling_206 rfl (by decide) ?_
    refine j_cV (as := [.int 1]) (rest := []) dX4_readTelling_207 rfl vw_X4_110 (hG 3 (9, 13) rfl) rfl ⟨Nat.le_of_ble_eq_true rfl, Nat.le_of_ble_eq_true rfl⟩ rfl rfl (fun _ _ => Nat.le_of_ble_eq_true rfl) (e2 c0 c1 c2) (fun r μ' hr => ?_)
    obtain ⟨rfl, hr⟩ := hr
    exact k2 c0 c1 c2 μ' hr
  by_cases c3 : z0 = (131 : Int32)
  · skip
    refine j_tableIn (off := 201) 205 dX4_readTelling_4 (sw_1 c3 (by decide)) (sw_2 c3 (by decide)) (sw_3 c3 (by decide)) (by decide) ?_
    refine j_aload_n dX4_readTelling_205 rfl rfl ?_
    refine j_iconst 1 dX4_readTelling_206 rfl (by decide) ?_
    refine j_cV (as := [.int 1]) (rest := []) dX4_readTelling_207 rfl vw_X4_110 (hG 3 (9, 13) rfl) rfl ⟨Nat.le_of_ble_eq_true rfl, Nat.le_of_ble_eq_true rfl⟩ rfl rfl (fun _ _ => Nat.le_of_ble_eq_true rfl) (e3 c0 c1 c2 c3) (fun r μ' hr => ?_)
    obtain ⟨rfl, hr⟩ := hr
    exact k3 c0 c1 c2 c3 μ' hr
  by_cases c4 : z0 = (132 : Int32)
  · skip
    refine j_tableIn (off := 74) 78 dX4_readTelling_4 (sw_1 c4 (by decide)) (sw_2 c4 (by decide)) (sw_3 c4 (by decide)) (by decide) ?_
    refine j_aload_n dX4_readTelling_78 rfl rfl ?_
    refine j_cV (as := []) (rest := []) dX4_readTelling_79 rfl vw_X4_74 (hG 3 (9, 13) rfl) rfl ⟨Nat.le_of_ble_eq_true rfl, Nat.le_of_ble_eq_true rfl⟩ rfl rfl (fun _ _ => Nat.le_of_ble_eq_true rfl) (e4 c0 c1 c2 c3 c4) (fun r μ' hr => ?_)
    obtain ⟨rfl, hr⟩ := hr
    exact k4 c0 c1 c2 c3 c4 μ' hr
  by_cases c5 : z0 = (133 : Int32)
  · skip
    refine j_tableIn (off := 81) 85 dX4_readTelling_4 (sw_1 c5 (by decide)) (sw_2 c5 (by decide)) (sw_3 c5 (by decide)) (by decide) ?_
    refine j_aload_n dX4_readTelling_85 rfl rfl ?_
    refine j_aload_n dX4_readTelling_86 rfl rfl ?_
    refine j_getR (ci := 4) (N := 13) (f := 7) (T := TX4) dr dX4_readTelling_87 rfl (hG 3 (9, 13) rfl) rfl (by decide) fl_X4_29 rfl q3_7 ?_
    refine j_getR (ci := 8) (N := 20) (f := 13) (T := TX8) (dr + 9) dX4_readTelling_90 rfl (hdr.1 0 (13, 20) rfl) rfl (by decide) fl_X4_77 rfl (hdr.2 0 13 9 rfl) ?_
    refine j_cV (as := [.ref (dr + 9)]) (rest := []) dX4_readTelling_93 rfl vw_X4_81 (hG 3 (9, 13) rfl) rfl ⟨Nat.le_of_ble_eq_true rfl, Nat.le_of_ble_eq_true rfl⟩ rfl rfl (fun _ _ => Nat.le_of_ble_eq_true rfl) (e5 c0 c1 c2 c3 c4 c5) (fun r μ' hr => ?_)
    obtain ⟨rfl, hr⟩ := hr
    exact k5 c0 c1 c2 c3 c4 c5 μ' hr
  by_cases c6 : z0 = (134 : Int32)
  · skip
    refine j_tableIn (off := 95) 99 dX4_readTelling_4 (sw_1 c6 (by decide)) (sw_2 c6 (by decide)) (sw_3 c6 (by decide)) (by decide) ?_
    refine j_aload_n dX4_readTelling_99 rfl rfl ?_
    refine j_aload_n dX4_readTelling_100 rfl rfl ?_
    refine j_getR (ci := 4) (N := 13) (f := 7) (T := TX4) dr dX4_readTelling_101 rfl (hG 3 (9, 13) rfl) rfl (by decide) fl_X4_29 rfl q3_7 ?_
    refine j_getR (ci := 8) (N := 20) (f := 14) (T := TX8) (dr + 13) dX4_readTelling_104 rfl (hdr.1 0 (13, 20) rfl) rfl (by decide) fl_X4_85 rfl (hdr.2 0 14 13 rfl) ?_
    refine j_cV (as := [.ref (dr + 13)]) (rest := []) dX4_readTelling_107 rfl vw_X4_81 (hG 3 (9, 13) rfl) rfl ⟨Nat.le_of_ble_eq_true rfl, Nat.le_of_ble_eq_true rfl⟩ rfl rfl (fun _ _ => Nat.le_of_ble_eq_true rfl) (e6 c0 c1 c2 c3 c4 c5 c6) (fun r μ' hr => ?_)
    obtain ⟨rfl, hr⟩ := hr
    exact k6 c0 c1 c2 c3 c4 c5 c6 μ' hr
  by_cases c7 : z0 = (135 : Int32)
  · skip
    refine j_tableIn (off := 109) 113 dX4_readTelling_4 (sw_1 c7 (by decide)) (sw_2 c7 (by decide)) (sw_3 c7 (by decide)) (by decide) ?_
    refine j_aload_n dX4_readTelling_113 rfl rfl ?_
    refine j_aload_n dX4_readTelling_114 rfl rfl ?_
    refine j_getR (ci := 4) (N := 13) (f := 7) (T := TX4) dr dX4_readTelling_115 rfl (hG 3 (9, 13) rfl) rfl (by decide) fl_X4_29 rfl q3_7 ?_
    refine j_getR (ci := 8) (N := 20) (f := 15) (T := TX8) (dr + 17) dX4_readTelling_118 rfl (hdr.1 0 (13, 20) rfl) rfl (by decide) fl_X4_88 rfl (hdr.2 0 15 17 rfl) ?_
    refine j_cV (as := [.ref (dr + 17)]) (rest := []) dX4_readTelling_121 rfl vw_X4_81 (hG 3 (9, 13) rfl) rfl ⟨Nat.le_of_ble_eq_true rfl, Nat.le_of_ble_eq_true rfl⟩ rfl rfl (fun _ _ => Nat.le_of_ble_eq_true rfl) (e7 c0 c1 c2 c3 c4 c5 c6 c7) (fun r μ' hr => ?_)
    obtain ⟨rfl, hr⟩ := hr
    exact k7 c0 c1 c2 c3 c4 c5 c6 c7 μ' hr
  by_cases c8 : z0 = (136 : Int32)
  · skip
    refine j_tableIn (off := 123) 127 dX4_readTelling_4 (sw_1 c8 (by decide)) (sw_2 c8 (by decide)) (sw_3 c8 (by decide)) (by decide) ?_
    refine j_aload_n dX4_readTelling_127 rfl rfl ?_
    refine j_cV (as := []) (rest := []) dX4_readTelling_128 rfl vw_X4_91 (hG 3 (9, 13) rfl) rfl ⟨Nat.le_of_ble_eq_true rfl, Nat.le_of_ble_eq_true rfl⟩ rfl rfl (fun _ _ => Nat.le_of_ble_eq_true rfl) (e8 c0 c1 c2 c3 c4 c5 c6 c7 c8) (fun r μ' hr => ?_)
    obtain ⟨rfl, hr⟩ := hr
    exact k8 c0 c1 c2 c3 c4 c5 c6 c7 c8 μ' hr
  by_cases c9 : z0 = (137 : Int32)
  · skip
    refine j_tableIn (off := 144) 148 dX4_readTelling_4 (sw_1 c9 (by decide)) (sw_2 c9 (by decide)) (sw_3 c9 (by decide)) (by decide) ?_
    refine j_aload_n dX4_readTelling_148 rfl rfl ?_
    refine j_cV (as := []) (rest := []) dX4_readTelling_149 rfl vw_X4_91 (hG 3 (9, 13) rfl) rfl ⟨Nat.le_of_ble_eq_true rfl, Nat.le_of_ble_eq_true rfl⟩ rfl rfl (fun _ _ => Nat.le_of_ble_eq_true rfl) (e9 c0 c1 c2 c3 c4 c5 c6 c7 c8 c9) (fun r μ' hr => ?_)
    obtain ⟨rfl, hr⟩ := hr
    exact k9 c0 c1 c2 c3 c4 c5 c6 c7 c8 c9 μ' hr
  by_cases c10 : z0 = (138 : Int32)
  · skip
    refine j_tableIn (off := 179) 183 dX4_readTelling_4 (sw_1 c10 (by decide)) (sw_2 c10 (by decide)) (sw_3 c10 (by decide)) (by decide) ?_
    refine j_aload_n dX4_readTelling_183 rfl rfl ?_
    refine j_cV (as := []) (rest := []) dX4_readTelling_184 rfl vw_X4_91 (hG 3 (9, 13) rfl) rfl ⟨Nat.le_of_ble_eq_true rfl, Nat.le_of_ble_eq_true rfl⟩ rfl rfl (fun _ _ => Nat.le_of_ble_eq_true rfl) (e10 c0 c1 c2 c3 c4 c5 c6 c7 c8 c9 c10) (fun r μ' hr => ?_)
    obtain ⟨rfl, hr⟩ := hr
    exact k10 c0 c1 c2 c3 c4 c5 c6 c7 c8 c9 c10 μ' hr
  refine j_tableOut 205 dX4_readTelling_4 (sw_o [128, 129, 130, 131, 132, 133, 134, 135, 136, 137, 138] (by decide) ⟨c0, c1, c2, c3, c4, c5, c6, c7, c8, c9, c10, trivial⟩) (by decide) ?_
  refine j_aload_n dX4_readTelling_205 rfl rfl ?_
  refine j_iconst 1 dX4_readTelling_206 rfl (by decide) ?_
  refine j_cV (as := [.int 1]) (rest := []) dX4_readTelling_207 rfl vw_X4_110 (hG 3 (9, 13) rfl) rfl ⟨Nat.le_of_ble_eq_true rfl, Nat.le_of_ble_eq_true rfl⟩ rfl rfl (fun _ _ => Nat.le_of_ble_eq_true rfl) (e11 c0 c1 c2 c3 c4 c5 c6 c7 c8 c9 c10) (fun r μ' hr => ?_)
  obtain ⟨rfl, hr⟩ := hr
  exact k11 c0 c1 c2 c3 c4 c5 c6 c7 c8 c9 c10 μ' hr
theorem b_X4_readTelling_68 {l : Launch} {G : jG} {μ : jM} {φ : jM → Prop} {ψ0 : Int32 → jM → Prop} (hG : gGG G) (hP : gPP μ) 
    (e0 : jC0 l mX4_expect 2 G [.ref 3, .int 59] μ (pI ψ0)) 
    (k0 : ∀ v μ', ψ0 v μ' → J l mX4_readTelling (jZ0 5 G (pV φ)) G 0 0 216 [.null] [.int v] μ') :
    J l mX4_readTelling (jZ0 5 G (pV φ)) G 0 0 68 [.ref 3] [] μ := by
  refine j_goto 210 dX4_readTelling_68 (by decide) ?_
  refine j_aload_n dX4_readTelling_210 rfl rfl ?_
  refine j_bipush 59 dX4_readTelling_211 rfl (by decide) ?_
  refine j_cV (as := [.int 59]) (rest := []) dX4_readTelling_213 rfl vw_X4_114 (hG 3 (9, 13) rfl) rfl ⟨Nat.le_of_ble_eq_true rfl, Nat.le_of_ble_eq_true rfl⟩ rfl rfl (fun _ _ => Nat.le_of_ble_eq_true rfl) (e0 ) (fun r μ' hr => ?_)
  obtain ⟨v, rfl, hr⟩ := hr
  refine j_forget (ls' := [.null]) ⟨Or.inl rfl, trivial⟩ ?_
  exact k0  v μ' hr
theorem b_X4_readTelling_75 {l : Launch} {G : jG} {μ : jM} {φ : jM → Prop} {ψ0 : Int32 → jM → Prop} (hG : gGG G) (hP : gPP μ) 
    (e0 : jC0 l mX4_expect 2 G [.ref 3, .int 59] μ (pI ψ0)) 
    (k0 : ∀ v μ', ψ0 v μ' → J l mX4_readTelling (jZ0 5 G (pV φ)) G 0 0 216 [.null] [.int v] μ') :
    J l mX4_readTelling (jZ0 5 G (pV φ)) G 0 0 75 [.ref 3] [] μ := by
  refine j_goto 210 dX4_readTelling_75 (by decide) ?_
  refine j_aload_n dX4_readTelling_210 rfl rfl ?_
  refine j_bipush 59 dX4_readTelling_211 rfl (by decide) ?_
  refine j_cV (as := [.int 59]) (rest := []) dX4_readTelling_213 rfl vw_X4_114 (hG 3 (9, 13) rfl) rfl ⟨Nat.le_of_ble_eq_true rfl, Nat.le_of_ble_eq_true rfl⟩ rfl rfl (fun _ _ => Nat.le_of_ble_eq_true rfl) (e0 ) (fun r μ' hr => ?_)
  obtain ⟨v, rfl, hr⟩ := hr
  refine j_forget (ls' := [.null]) ⟨Or.inl rfl, trivial⟩ ?_
  exact k0  v μ' hr
theorem b_X4_readTelling_82 {l : Launch} {G : jG} {μ : jM} {φ : jM → Prop} {ψ0 : Int32 → jM → Prop} (hG : gGG G) (hP : gPP μ) 
    (e0 : jC0 l mX4_expect 2 G [.ref 3, .int 59] μ (pI ψ0)) 
    (k0 : ∀ v μ', ψ0 v μ' → J l mX4_readTelling (jZ0 5 G (pV φ)) G 0 0 216 [.null] [.int v] μ') :
    J l mX4_readTelling (jZ0 5 G (pV φ)) G 0 0 82 [.ref 3] [] μ := by
  refine j_goto 210 dX4_readTelling_82 (by decide) ?_
  refine j_aload_n dX4_readTelling_210 rfl rfl ?_
  refine j_bipush 59 dX4_readTelling_211 rfl (by decide) ?_
  refine j_cV (as := [.int 59]) (rest := []) dX4_readTelling_213 rfl vw_X4_114 (hG 3 (9, 13) rfl) rfl ⟨Nat.le_of_ble_eq_true rfl, Nat.le_of_ble_eq_true rfl⟩ rfl rfl (fun _ _ => Nat.le_of_ble_eq_true rfl) (e0 ) (fun r μ' hr => ?_)
  obtain ⟨v, rfl, hr⟩ := hr
  refine j_forget (ls' := [.null]) ⟨Or.inl rfl, trivial⟩ ?_
  exact k0  v μ' hr
theorem b_X4_readTelling_96 {l : Launch} {G : jG} {μ : jM} {φ : jM → Prop} {ψ0 : Int32 → jM → Prop} (hG : gGG G) (hP : gPP μ) 
    (e0 : jC0 l mX4_expect 2 G [.ref 3, .int 59] μ (pI ψ0)) 
    (k0 : ∀ v μ', ψ0 v μ' → J l mX4_readTelling (jZ0 5 G (pV φ)) G 0 0 216 [.null] [.int v] μ') :
    J l mX4_readTelling (jZ0 5 G (pV φ)) G 0 0 96 [.ref 3] [] μ := by
  refine j_goto 210 dX4_readTelling_96 (by decide) ?_
  refine j_aload_n dX4_readTelling_210 rfl rfl ?_
  refine j_bipush 59 dX4_readTelling_211 rfl (by decide) ?_
  refine j_cV (as := [.int 59]) (rest := []) dX4_readTelling_213 rfl vw_X4_114 (hG 3 (9, 13) rfl) rfl ⟨Nat.le_of_ble_eq_true rfl, Nat.le_of_ble_eq_true rfl⟩ rfl rfl (fun _ _ => Nat.le_of_ble_eq_true rfl) (e0 ) (fun r μ' hr => ?_)
  obtain ⟨v, rfl, hr⟩ := hr
  refine j_forget (ls' := [.null]) ⟨Or.inl rfl, trivial⟩ ?_
  exact k0  v μ' hr
theorem b_X4_readTelling_110 {l : Launch} {G : jG} {μ : jM} {φ : jM → Prop} {ψ0 : Int32 → jM → Prop} (hG : gGG G) (hP : gPP μ) 
    (e0 : jC0 l mX4_expect 2 G [.ref 3, .int 59] μ (pI ψ0)) 
    (k0 : ∀ v μ', ψ0 v μ' → J l mX4_readTelling (jZ0 5 G (pV φ)) G 0 0 216 [.null] [.int v] μ') :
    J l mX4_readTelling (jZ0 5 G (pV φ)) G 0 0 110 [.ref 3] [] μ := by
  refine j_goto 210 dX4_readTelling_110 (by decide) ?_
  refine j_aload_n dX4_readTelling_210 rfl rfl ?_
  refine j_bipush 59 dX4_readTelling_211 rfl (by decide) ?_
  refine j_cV (as := [.int 59]) (rest := []) dX4_readTelling_213 rfl vw_X4_114 (hG 3 (9, 13) rfl) rfl ⟨Nat.le_of_ble_eq_true rfl, Nat.le_of_ble_eq_true rfl⟩ rfl rfl (fun _ _ => Nat.le_of_ble_eq_true rfl) (e0 ) (fun r μ' hr => ?_)
  obtain ⟨v, rfl, hr⟩ := hr
  refine j_forget (ls' := [.null]) ⟨Or.inl rfl, trivial⟩ ?_
  exact k0  v μ' hr
theorem b_X4_readTelling_124 {l : Launch} {G : jG} {μ : jM} {φ : jM → Prop} {ψ0 : Int32 → jM → Prop} (hG : gGG G) (hP : gPP μ) 
    (e0 : jC0 l mX4_expect 2 G [.ref 3, .int 59] μ (pI ψ0)) 
    (k0 : ∀ v μ', ψ0 v μ' → J l mX4_readTelling (jZ0 5 G (pV φ)) G 0 0 216 [.null] [.int v] μ') :
    J l mX4_readTelling (jZ0 5 G (pV φ)) G 0 0 124 [.ref 3] [] μ := by
  refine j_goto 210 dX4_readTelling_124 (by decide) ?_
  refine j_aload_n dX4_readTelling_210 rfl rfl ?_
  refine j_bipush 59 dX4_readTelling_211 rfl (by decide) ?_
  refine j_cV (as := [.int 59]) (rest := []) dX4_readTelling_213 rfl vw_X4_114 (hG 3 (9, 13) rfl) rfl ⟨Nat.le_of_ble_eq_true rfl, Nat.le_of_ble_eq_true rfl⟩ rfl rfl (fun _ _ => Nat.le_of_ble_eq_true rfl) (e0 ) (fun r μ' hr => ?_)
  obtain ⟨v, rfl, hr⟩ := hr
  refine j_forget (ls' := [.null]) ⟨Or.inl rfl, trivial⟩ ?_
  exact k0  v μ' hr
theorem b_X4_readTelling_131 {l : Launch} {G : jG} {μ : jM} {φ : jM → Prop} {ψ0 : Int32 → jM → Prop} {dr : Nat} (hG : gGG G) (hP : gPP μ) (hdr : tO gTold pTold G μ dr) (q3_7 : μ.2.2 3 7 = some dr) 
    (e0 : jC0 l mX4_readNumber 3 G [.ref 3, .int 0, .int 100] μ (pI ψ0)) 
    (k0 : ∀ v μ', ψ0 v μ' → J l mX4_readTelling (jZ0 5 G (pV φ)) G 0 0 142 [.ref 3] [.int v, .ref dr] μ') :
    J l mX4_readTelling (jZ0 5 G (pV φ)) G 0 0 131 [.ref 3] [] μ := by
  refine j_aload_n dX4_readTelling_131 rfl rfl ?_
  refine j_getR (ci := 4) (N := 13) (f := 7) (T := TX4) dr dX4_readTelling_132 rfl (hG 3 (9, 13) rfl) rfl (by decide) fl_X4_29 rfl q3_7 ?_
  refine j_aload_n dX4_readTelling_135 rfl rfl ?_
  refine j_iconst 0 dX4_readTelling_136 rfl (by decide) ?_
  refine j_bipush 100 dX4_readTelling_137 rfl (by decide) ?_
  refine j_cV (as := [.int 0, .int 100]) (rest := [.ref dr]) dX4_readTelling_139 rfl vw_X4_94 (hG 3 (9, 13) rfl) rfl ⟨Nat.le_of_ble_eq_true rfl, Nat.le_of_ble_eq_true rfl⟩ rfl rfl (fun _ _ => Nat.le_of_ble_eq_true rfl) (e0 ) (fun r μ' hr => ?_)
  obtain ⟨v, rfl, hr⟩ := hr
  exact k0  v μ' hr
theorem b_X4_readTelling_142 {l : Launch} {G : jG} {μ : jM} {φ : jM → Prop} {z0 : Int32} {ψ0 : Int32 → jM → Prop} {dr : Nat} (hG : gGG G) (hP : gPP μ) (hdr : tO gTold pTold G μ dr) 
    (e0 : jC0 l mX4_expect 2 G [.ref 3, .int 59] (wI μ dr 16 z0) (pI ψ0)) 
    (k0 : ∀ v μ', ψ0 v μ' → J l mX4_readTelling (jZ0 5 G (pV φ)) G 0 0 216 [.null] [.int v] μ') :
    J l mX4_readTelling (jZ0 5 G (pV φ)) G 0 0 142 [.ref 3] [.int z0, .ref dr] μ := by
  refine j_putI (ci := 8) (N := 20) (f := 16) (T := TX8) dX4_readTelling_142 rfl (hdr.1 0 (13, 20) rfl) rfl (by decide) fl_X4_98 rfl rfl ?_
  refine j_goto 210 dX4_readTelling_145 (by decide) ?_
  refine j_aload_n dX4_readTelling_210 rfl rfl ?_
  refine j_bipush 59 dX4_readTelling_211 rfl (by decide) ?_
  refine j_cV (as := [.int 59]) (rest := []) dX4_readTelling_213 rfl vw_X4_114 (hG 3 (9, 13) rfl) rfl ⟨Nat.le_of_ble_eq_true rfl, Nat.le_of_ble_eq_true rfl⟩ rfl rfl (fun _ _ => Nat.le_of_ble_eq_true rfl) (e0 ) (fun r μ' hr => ?_)
  obtain ⟨v, rfl, hr⟩ := hr
  refine j_forget (ls' := [.null]) ⟨Or.inl rfl, trivial⟩ ?_
  exact k0  v μ' hr
theorem b_X4_readTelling_152 {l : Launch} {G : jG} {μ : jM} {φ : jM → Prop} {ψ0 : Int32 → jM → Prop} {dr : Nat} (hG : gGG G) (hP : gPP μ) (hdr : tO gTold pTold G μ dr) (q3_7 : μ.2.2 3 7 = some dr) 
    (e0 : jC0 l mX4_readNumber 3 G [.ref 3, .int 0, .int 100] μ (pI ψ0)) 
    (k0 : ∀ v μ', ψ0 v μ' → J l mX4_readTelling (jZ0 5 G (pV φ)) G 0 0 163 [.ref 3] [.int v, .ref dr] μ') :
    J l mX4_readTelling (jZ0 5 G (pV φ)) G 0 0 152 [.ref 3] [] μ := by
  refine j_aload_n dX4_readTelling_152 rfl rfl ?_
  refine j_getR (ci := 4) (N := 13) (f := 7) (T := TX4) dr dX4_readTelling_153 rfl (hG 3 (9, 13) rfl) rfl (by decide) fl_X4_29 rfl q3_7 ?_
  refine j_aload_n dX4_readTelling_156 rfl rfl ?_
  refine j_iconst 0 dX4_readTelling_157 rfl (by decide) ?_
  refine j_bipush 100 dX4_readTelling_158 rfl (by decide) ?_
  refine j_cV (as := [.int 0, .int 100]) (rest := [.ref dr]) dX4_readTelling_160 rfl vw_X4_94 (hG 3 (9, 13) rfl) rfl ⟨Nat.le_of_ble_eq_true rfl, Nat.le_of_ble_eq_true rfl⟩ rfl rfl (fun _ _ => Nat.le_of_ble_eq_true rfl) (e0 ) (fun r μ' hr => ?_)
  obtain ⟨v, rfl, hr⟩ := hr
  exact k0  v μ' hr
theorem b_X4_readTelling_163 {l : Launch} {G : jG} {μ : jM} {φ : jM → Prop} {z0 : Int32} {ψ0 : Int32 → jM → Prop} {dr : Nat} (hG : gGG G) (hP : gPP μ) (hdr : tO gTold pTold G μ dr) (q3_7 : μ.2.2 3 7 = some dr) 
    (e0 : jC0 l mX4_readNumber 3 G [.ref 3, .int 0, .int 100] (wI μ dr 17 z0) (pI ψ0)) 
    (k0 : ∀ v μ', ψ0 v μ' → J l mX4_readTelling (jZ0 5 G (pV φ)) G 0 0 177 [.ref 3] [.int v, .ref dr] μ') :
    J l mX4_readTelling (jZ0 5 G (pV φ)) G 0 0 163 [.ref 3] [.int z0, .ref dr] μ := by
  refine j_putI (ci := 8) (N := 20) (f := 17) (T := TX8) dX4_readTelling_163 rfl (hdr.1 0 (13, 20) rfl) rfl (by decide) fl_X4_101 rfl rfl ?_
  refine j_aload_n dX4_readTelling_166 rfl rfl ?_
  refine j_getR (ci := 4) (N := 13) (f := 7) (T := TX4) dr dX4_readTelling_167 rfl (hG 3 (9, 13) rfl) rfl (by decide) fl_X4_29 rfl q3_7 ?_
  refine j_aload_n dX4_readTelling_170 rfl rfl ?_
  refine j_iconst 0 dX4_readTelling_171 rfl (by decide) ?_
  refine j_bipush 100 dX4_readTelling_172 rfl (by decide) ?_
  refine j_cV (as := [.int 0, .int 100]) (rest := [.ref dr]) dX4_readTelling_174 rfl vw_X4_94 (hG 3 (9, 13) rfl) rfl ⟨Nat.le_of_ble_eq_true rfl, Nat.le_of_ble_eq_true rfl⟩ rfl rfl (fun _ _ => Nat.le_of_ble_eq_true rfl) (e0 ) (fun r μ' hr => ?_)
  obtain ⟨v, rfl, hr⟩ := hr
  exact k0  v μ' hr
theorem b_X4_readTelling_177 {l : Launch} {G : jG} {μ : jM} {φ : jM → Prop} {z0 : Int32} {ψ0 : Int32 → jM → Prop} {dr : Nat} (hG : gGG G) (hP : gPP μ) (hdr : tO gTold pTold G μ dr) 
    (e0 : jC0 l mX4_expect 2 G [.ref 3, .int 59] (wI μ dr 18 z0) (pI ψ0)) 
    (k0 : ∀ v μ', ψ0 v μ' → J l mX4_readTelling (jZ0 5 G (pV φ)) G 0 0 216 [.null] [.int v] μ') :
    J l mX4_readTelling (jZ0 5 G (pV φ)) G 0 0 177 [.ref 3] [.int z0, .ref dr] μ := by
  refine j_putI (ci := 8) (N := 20) (f := 18) (T := TX8) dX4_readTelling_177 rfl (hdr.1 0 (13, 20) rfl) rfl (by decide) fl_X4_104 rfl rfl ?_
  refine j_goto 210 dX4_readTelling_180 (by decide) ?_
  refine j_aload_n dX4_readTelling_210 rfl rfl ?_
  refine j_bipush 59 dX4_readTelling_211 rfl (by decide) ?_
  refine j_cV (as := [.int 59]) (rest := []) dX4_readTelling_213 rfl vw_X4_114 (hG 3 (9, 13) rfl) rfl ⟨Nat.le_of_ble_eq_true rfl, Nat.le_of_ble_eq_true rfl⟩ rfl rfl (fun _ _ => Nat.le_of_ble_eq_true rfl) (e0 ) (fun r μ' hr => ?_)
  obtain ⟨v, rfl, hr⟩ := hr
  refine j_forget (ls' := [.null]) ⟨Or.inl rfl, trivial⟩ ?_
  exact k0  v μ' hr
theorem b_X4_readTelling_187 {l : Launch} {G : jG} {μ : jM} {φ : jM → Prop} {ψ0 : Int32 → jM → Prop} {dr : Nat} (hG : gGG G) (hP : gPP μ) (hdr : tO gTold pTold G μ dr) (q3_7 : μ.2.2 3 7 = some dr) 
    (e0 : jC0 l mX4_readNumber 3 G [.ref 3, .int 0, .int 9999] μ (pI ψ0)) 
    (k0 : ∀ v μ', ψ0 v μ' → J l mX4_readTelling (jZ0 5 G (pV φ)) G 0 0 199 [.ref 3] [.int v, .ref dr] μ') :
    J l mX4_readTelling (jZ0 5 G (pV φ)) G 0 0 187 [.ref 3] [] μ := by
  refine j_aload_n dX4_readTelling_187 rfl rfl ?_
  refine j_getR (ci := 4) (N := 13) (f := 7) (T := TX4) dr dX4_readTelling_188 rfl (hG 3 (9, 13) rfl) rfl (by decide) fl_X4_29 rfl q3_7 ?_
  refine j_aload_n dX4_readTelling_191 rfl rfl ?_
  refine j_iconst 0 dX4_readTelling_192 rfl (by decide) ?_
  refine j_sipush 9999 dX4_readTelling_193 rfl (by decide) ?_
  refine j_cV (as := [.int 0, .int 9999]) (rest := [.ref dr]) dX4_readTelling_196 rfl vw_X4_94 (hG 3 (9, 13) rfl) rfl ⟨Nat.le_of_ble_eq_true rfl, Nat.le_of_ble_eq_true rfl⟩ rfl rfl (fun _ _ => Nat.le_of_ble_eq_true rfl) (e0 ) (fun r μ' hr => ?_)
  obtain ⟨v, rfl, hr⟩ := hr
  exact k0  v μ' hr
theorem b_X4_readTelling_199 {l : Launch} {G : jG} {μ : jM} {φ : jM → Prop} {z0 : Int32} {ψ0 : Int32 → jM → Prop} {dr : Nat} (hG : gGG G) (hP : gPP μ) (hdr : tO gTold pTold G μ dr) 
    (e0 : jC0 l mX4_expect 2 G [.ref 3, .int 59] (wI μ dr 19 z0) (pI ψ0)) 
    (k0 : ∀ v μ', ψ0 v μ' → J l mX4_readTelling (jZ0 5 G (pV φ)) G 0 0 216 [.null] [.int v] μ') :
    J l mX4_readTelling (jZ0 5 G (pV φ)) G 0 0 199 [.ref 3] [.int z0, .ref dr] μ := by
  refine j_putI (ci := 8) (N := 20) (f := 19) (T := TX8) dX4_readTelling_199 rfl (hdr.1 0 (13, 20) rfl) rfl (by decide) fl_X4_107 rfl rfl ?_
  refine j_goto 210 dX4_readTelling_202 (by decide) ?_
  refine j_aload_n dX4_readTelling_210 rfl rfl ?_
  refine j_bipush 59 dX4_readTelling_211 rfl (by decide) ?_
  refine j_cV (as := [.int 59]) (rest := []) dX4_readTelling_213 rfl vw_X4_114 (hG 3 (9, 13) rfl) rfl ⟨Nat.le_of_ble_eq_true rfl, Nat.le_of_ble_eq_true rfl⟩ rfl rfl (fun _ _ => Nat.le_of_ble_eq_true rfl) (e0 ) (fun r μ' hr => ?_)
  obtain ⟨v, rfl, hr⟩ := hr
  refine j_forget (ls' := [.null]) ⟨Or.inl rfl, trivial⟩ ?_
  exact k0  v μ' hr
theorem b_X4_readTelling_210 {l : Launch} {G : jG} {μ : jM} {φ : jM → Prop} {ψ0 : Int32 → jM → Prop} (hG : gGG G) (hP : gPP μ) 
    (e0 : jC0 l mX4_expect 2 G [.ref 3, .int 59] μ (pI ψ0)) 
    (k0 : ∀ v μ', ψ0 v μ' → J l mX4_readTelling (jZ0 5 G (pV φ)) G 0 0 216 [.null] [.int v] μ') :
    J l mX4_readTelling (jZ0 5 G (pV φ)) G 0 0 210 [.ref 3] [] μ := by
  refine j_aload_n dX4_readTelling_210 rfl rfl ?_
  refine j_bipush 59 dX4_readTelling_211 rfl (by decide) ?_
  refine j_cV (as := [.int 59]) (rest := []) dX4_readTelling_213 rfl vw_X4_114 (hG 3 (9, 13) rfl) rfl ⟨Nat.le_of_ble_eq_true rfl, Nat.le_of_ble_eq_true rfl⟩ rfl rfl (fun _ _ => Nat.le_of_ble_eq_true rfl) (e0 ) (fun r μ' hr => ?_)
  obtain ⟨v, rfl, hr⟩ := hr
  refine j_forget (ls' := [.null]) ⟨Or.inl rfl, trivial⟩ ?_
  exact k0  v μ' hr
theorem b_X4_readTelling_216 {l : Launch} {G : jG} {μ : jM} {φ : jM → Prop} {z0 : Int32} (hG : gGG G) (hP : gPP μ) 
    (k0 : φ μ) :
    J l mX4_readTelling (jZ0 5 G (pV φ)) G 0 0 216 [.null] [.int z0] μ := by
  refine j_pop dX4_readTelling_216 rfl (fun _ _ => rfl) ?_
  exact j_vret dX4_readTelling_217 rfl (k0 )
theorem b_X4_readPlace_0 {l : Launch} {G : jG} {μ : jM} {φ : jM → Prop} {ψ0 : jM → Prop} {ψ1 : jM → Prop} {dr : Nat} (hG : gGG G) (hP : gPP μ) (hdr : tO gTold pTold G μ dr) (q3_7 : μ.2.2 3 7 = some dr) 
    (e0 : ((μ.1 dr 0) < (8 : Int32)) → jC0 l mX4_take 1 G [.ref 3] μ (pV ψ0)) 
    (k0 : ((μ.1 dr 0) < (8 : Int32)) → ∀ μ', ψ0 μ' → J l mX4_readPlace (jZ0 4 G (pV φ)) G 0 0 22 [.ref 3] [] μ') 
    (e1 : (¬ ((μ.1 dr 0) < (8 : Int32))) → jC0 l mX4_failHere 0 G [.ref 3, .int 2] μ (pV ψ1)) 
    (k1 : (¬ ((μ.1 dr 0) < (8 : Int32))) → ∀ μ', ψ1 μ' → J l mX4_readPlace (jZ0 4 G (pV φ)) G 0 0 17 [.null] [] μ') :
    J l mX4_readPlace (jZ0 4 G (pV φ)) G 0 0 0 [.ref 3] [] μ := by
  refine j_aload_n dX4_readPlace_0 rfl rfl ?_
  refine j_getR (ci := 4) (N := 13) (f := 7) (T := TX4) dr dX4_readPlace_1 rfl (hG 3 (9, 13) rfl) rfl (by decide) fl_X4_29 rfl q3_7 ?_
  refine j_getI (ci := 8) (N := 20) (f := 0) (T := TX8) dX4_readPlace_4 rfl (hdr.1 0 (13, 20) rfl) rfl (by decide) fl_X4_118 rfl ?_
  refine j_bipush 8 dX4_readPlace_7 rfl (by decide) ?_
  refine j_icmp_lt 18 dX4_readPlace_9 rfl (by decide) (fun c0 => ?_) (fun c0 => ?_)
  · skip
    refine j_aload_n dX4_readPlace_18 rfl rfl ?_
    refine j_cV (as := []) (rest := []) dX4_readPlace_19 rfl vw_X4_91 (hG 3 (9, 13) rfl) rfl ⟨Nat.le_of_ble_eq_true rfl, Nat.le_of_ble_eq_true rfl⟩ rfl rfl (fun _ _ => Nat.le_of_ble_eq_true rfl) (e0 c0) (fun r μ' hr => ?_)
    obtain ⟨rfl, hr⟩ := hr
    exact k0 c0 μ' hr
  · skip
    refine j_aload_n dX4_readPlace_12 rfl rfl ?_
    refine j_iconst 2 dX4_readPlace_13 rfl (by decide) ?_
    refine j_cV (as := [.int 2]) (rest := []) dX4_readPlace_14 rfl vw_X4_110 (hG 3 (9, 13) rfl) rfl ⟨Nat.le_of_ble_eq_true rfl, Nat.le_of_ble_eq_true rfl⟩ rfl rfl (fun _ _ => Nat.le_of_ble_eq_true rfl) (e1 c0) (fun r μ' hr => ?_)
    obtain ⟨rfl, hr⟩ := hr
    refine j_forget (ls' := [.null]) ⟨Or.inl rfl, trivial⟩ ?_
    exact k1 c0 μ' hr
theorem b_X4_readPlace_17 {l : Launch} {G : jG} {μ : jM} {φ : jM → Prop} (hG : gGG G) (hP : gPP μ) 
    (k0 : φ μ) :
    J l mX4_readPlace (jZ0 4 G (pV φ)) G 0 0 17 [.null] [] μ := by
  exact j_vret dX4_readPlace_17 rfl (k0 )
theorem b_X4_readPlace_22 {l : Launch} {G : jG} {μ : jM} {φ : jM → Prop} {ψ0 : jM → Prop} {dr : Nat} (hG : gGG G) (hP : gPP μ) (hdr : tO gTold pTold G μ dr) (q3_7 : μ.2.2 3 7 = some dr) 
    (e0 : jC0 l mX4_readNewName 3 G [.ref 3, .ref 9, .int (μ.1 dr 0)] μ (pV ψ0)) 
    (k0 : ∀ μ', ψ0 μ' → J l mX4_readPlace (jZ0 4 G (pV φ)) G 0 0 37 [.ref 3] [] μ') :
    J l mX4_readPlace (jZ0 4 G (pV φ)) G 0 0 22 [.ref 3] [] μ := by
  refine j_aload_n dX4_readPlace_22 rfl rfl ?_
  refine j_aload_n dX4_readPlace_23 rfl rfl ?_
  refine j_getR (ci := 4) (N := 13) (f := 2) (T := TX4) 9 dX4_readPlace_24 rfl (hG 3 (9, 13) rfl) rfl (by decide) fl_X4_18 rfl (hP 3 2 9 rfl) ?_
  refine j_aload_n dX4_readPlace_27 rfl rfl ?_
  refine j_getR (ci := 4) (N := 13) (f := 7) (T := TX4) dr dX4_readPlace_28 rfl (hG 3 (9, 13) rfl) rfl (by decide) fl_X4_29 rfl q3_7 ?_
  refine j_getI (ci := 8) (N := 20) (f := 0) (T := TX8) dX4_readPlace_31 rfl (hdr.1 0 (13, 20) rfl) rfl (by decide) fl_X4_118 rfl ?_
  refine j_cV (as := [.ref 9, .int (μ.1 dr 0)]) (rest := []) dX4_readPlace_34 rfl vw_X4_121 (hG 3 (9, 13) rfl) rfl ⟨Nat.le_of_ble_eq_true rfl, Nat.le_of_ble_eq_true rfl⟩ rfl rfl (fun _ _ => Nat.le_of_ble_eq_true rfl) (e0 ) (fun r μ' hr => ?_)
  obtain ⟨rfl, hr⟩ := hr
  exact k0  μ' hr
theorem b_X4_readPlace_37 {l : Launch} {G : jG} {μ : jM} {φ : jM → Prop} {dr : Nat} (hG : gGG G) (hP : gPP μ) (hdr : tO gTold pTold G μ dr) (q3_7 : μ.2.2 3 7 = some dr) 
    (k0 : φ (wI μ dr 0 ((μ.1 dr 0) + 1))) :
    J l mX4_readPlace (jZ0 4 G (pV φ)) G 0 0 37 [.ref 3] [] μ := by
  refine j_aload_n dX4_readPlace_37 rfl rfl ?_
  refine j_getR (ci := 4) (N := 13) (f := 7) (T := TX4) dr dX4_readPlace_38 rfl (hG 3 (9, 13) rfl) rfl (by decide) fl_X4_29 rfl q3_7 ?_
  refine j_dup dX4_readPlace_41 rfl (fun _ _ => rfl) ?_
  refine j_getI (ci := 8) (N := 20) (f := 0) (T := TX8) dX4_readPlace_42 rfl (hdr.1 0 (13, 20) rfl) rfl (by decide) fl_X4_118 rfl ?_
  refine j_iconst 1 dX4_readPlace_45 rfl (by decide) ?_
  refine j_iadd dX4_readPlace_46 rfl ?_
  refine j_putI (ci := 8) (N := 20) (f := 0) (T := TX8) dX4_readPlace_47 rfl (hdr.1 0 (13, 20) rfl) rfl (by decide) fl_X4_118 rfl rfl ?_
  exact j_vret dX4_readPlace_50 rfl (k0 )
theorem b_X4_readRoad_0 {l : Launch} {G : jG} {μ : jM} {φ : jM → Prop} {ψ0 : jM → Prop} {ψ1 : jM → Prop} {dr : Nat} (hG : gGG G) (hP : gPP μ) (hdr : tO gTold pTold G μ dr) (q3_7 : μ.2.2 3 7 = some dr) 
    (e0 : ((μ.1 dr 1) < (12 : Int32)) → jC0 l mX4_take 1 G [.ref 3] μ (pV ψ0)) 
    (k0 : ((μ.1 dr 1) < (12 : Int32)) → ∀ μ', ψ0 μ' → J l mX4_readRoad (jZ0 4 G (pV φ)) G 0 0 24 [.ref 3, .int (μ.1 dr 1)] [] μ') 
    (e1 : (¬ ((μ.1 dr 1) < (12 : Int32))) → jC0 l mX4_failHere 0 G [.ref 3, .int 2] μ (pV ψ1)) 
    (k1 : (¬ ((μ.1 dr 1) < (12 : Int32))) → ∀ μ', ψ1 μ' → J l mX4_readRoad (jZ0 4 G (pV φ)) G 0 0 19 [.null, .null] [] μ') :
    J l mX4_readRoad (jZ0 4 G (pV φ)) G 0 0 0 [.ref 3, .null] [] μ := by
  refine j_aload_n dX4_readRoad_0 rfl rfl ?_
  refine j_getR (ci := 4) (N := 13) (f := 7) (T := TX4) dr dX4_readRoad_1 rfl (hG 3 (9, 13) rfl) rfl (by decide) fl_X4_29 rfl q3_7 ?_
  refine j_getI (ci := 8) (N := 20) (f := 1) (T := TX8) dX4_readRoad_4 rfl (hdr.1 0 (13, 20) rfl) rfl (by decide) fl_X4_125 rfl ?_
  refine j_istore_n (ls' := [.ref 3, .int (μ.1 dr 1)]) dX4_readRoad_7 rfl rfl (Nat.le_of_ble_eq_true rfl) rfl ?_
  refine j_iload_n dX4_readRoad_8 rfl rfl ?_
  refine j_bipush 12 dX4_readRoad_9 rfl (by decide) ?_
  refine j_icmp_lt 20 dX4_readRoad_11 rfl (by decide) (fun c0 => ?_) (fun c0 => ?_)
  · skip
    refine j_aload_n dX4_readRoad_20 rfl rfl ?_
    refine j_cV (as := []) (rest := []) dX4_readRoad_21 rfl vw_X4_91 (hG 3 (9, 13) rfl) rfl ⟨Nat.le_of_ble_eq_true rfl, Nat.le_of_ble_eq_true rfl⟩ rfl rfl (fun _ _ => Nat.le_of_ble_eq_true rfl) (e0 c0) (fun r μ' hr => ?_)
    obtain ⟨rfl, hr⟩ := hr
    exact k0 c0 μ' hr
  · skip
    refine j_aload_n dX4_readRoad_14 rfl rfl ?_
    refine j_iconst 2 dX4_readRoad_15 rfl (by decide) ?_
    refine j_cV (as := [.int 2]) (rest := []) dX4_readRoad_16 rfl vw_X4_110 (hG 3 (9, 13) rfl) rfl ⟨Nat.le_of_ble_eq_true rfl, Nat.le_of_ble_eq_true rfl⟩ rfl rfl (fun _ _ => Nat.le_of_ble_eq_true rfl) (e1 c0) (fun r μ' hr => ?_)
    obtain ⟨rfl, hr⟩ := hr
    refine j_forget (ls' := [.null, .null]) ⟨Or.inl rfl, Or.inl rfl, trivial⟩ ?_
    exact k1 c0 μ' hr
theorem b_X4_readRoad_19 {l : Launch} {G : jG} {μ : jM} {φ : jM → Prop} (hG : gGG G) (hP : gPP μ) 
    (k0 : φ μ) :
    J l mX4_readRoad (jZ0 4 G (pV φ)) G 0 0 19 [.null, .null] [] μ := by
  exact j_vret dX4_readRoad_19 rfl (k0 )
theorem b_X4_readRoad_24 {l : Launch} {G : jG} {μ : jM} {φ : jM → Prop} {x1 : Int32} {ψ0 : Int32 → jM → Prop} {dr : Nat} (hG : gGG G) (hP : gPP μ) (hdr : tO gTold pTold G μ dr) (q3_7 : μ.2.2 3 7 = some dr) 
    (e0 : jC0 l mX4_readOldPlace 3 G [.ref 3, .int (-1)] μ (pI ψ0)) 
    (k0 : ∀ v μ', ψ0 v μ' → J l mX4_readRoad (jZ0 4 G (pV φ)) G 0 0 37 [.ref 3, .int x1] [.int v, .int x1, .ref (dr + 1)] μ') :
    J l mX4_readRoad (jZ0 4 G (pV φ)) G 0 0 24 [.ref 3, .int x1] [] μ := by
  refine j_aload_n dX4_readRoad_24 rfl rfl ?_
  refine j_getR (ci := 4) (N := 13) (f := 7) (T := TX4) dr dX4_readRoad_25 rfl (hG 3 (9, 13) rfl) rfl (by decide) fl_X4_29 rfl q3_7 ?_
  refine j_getR (ci := 8) (N := 20) (f := 3) (T := TX8) (dr + 1) dX4_readRoad_28 rfl (hdr.1 0 (13, 20) rfl) rfl (by decide) fl_X4_128 rfl (hdr.2 0 3 1 rfl) ?_
  refine j_iload_n dX4_readRoad_31 rfl rfl ?_
  refine j_aload_n dX4_readRoad_32 rfl rfl ?_
  refine j_iconst (-1) dX4_readRoad_33 rfl (by decide) ?_
  refine j_cV (as := [.int (-1)]) (rest := [.int x1, .ref (dr + 1)]) dX4_readRoad_34 rfl vw_X4_131 (hG 3 (9, 13) rfl) rfl ⟨Nat.le_of_ble_eq_true rfl, Nat.le_of_ble_eq_true rfl⟩ rfl rfl (fun _ _ => Nat.le_of_ble_eq_true rfl) (e0 ) (fun r μ' hr => ?_)
  obtain ⟨v, rfl, hr⟩ := hr
  exact k0  v μ' hr
theorem b_X4_readRoad_37 {l : Launch} {G : jG} {μ : jM} {φ : jM → Prop} {x1 z0 z1 : Int32} {ψ0 : Int32 → jM → Prop} {dr : Nat} (hG : gGG G) (hP : gPP μ) (hdr : tO gTold pTold G μ dr) (q3_7 : μ.2.2 3 7 = some dr) 
    (o0 : vp_in z1 12) 
    (o1 : vp_in x1 12) 
    (e0 : jC0 l mX4_readOldPlace 3 G [.ref 3, .int ((wI μ (dr + 1) (Int32.toNatClampNeg z1) z0).1 (dr + 1) (Int32.toNatClampNeg x1))] (wI μ (dr + 1) (Int32.toNatClampNeg z1) z0) (pI ψ0)) 
    (k0 : ∀ v μ', ψ0 v μ' → J l mX4_readRoad (jZ0 4 G (pV φ)) G 0 0 59 [.ref 3, .int x1] [.int v, .int x1, .ref (dr + 2)] μ') :
    J l mX4_readRoad (jZ0 4 G (pV φ)) G 0 0 37 [.ref 3, .int x1] [.int z0, .int z1, .ref (dr + 1)] μ := by
  refine j_iast' (j := (Int32.toNatClampNeg z1)) dX4_readRoad_37 rfl (hdr.1 1 (0, 12) rfl) o0 rfl ?_
  refine j_aload_n dX4_readRoad_38 rfl rfl ?_
  refine j_getR (ci := 4) (N := 13) (f := 7) (T := TX4) dr dX4_readRoad_39 rfl (hG 3 (9, 13) rfl) rfl (by decide) fl_X4_29 rfl q3_7 ?_
  refine j_getR (ci := 8) (N := 20) (f := 4) (T := TX8) (dr + 2) dX4_readRoad_42 rfl (hdr.1 0 (13, 20) rfl) rfl (by decide) fl_X4_135 rfl (hdr.2 0 4 2 rfl) ?_
  refine j_iload_n dX4_readRoad_45 rfl rfl ?_
  refine j_aload_n dX4_readRoad_46 rfl rfl ?_
  refine j_aload_n dX4_readRoad_47 rfl rfl ?_
  refine j_getR (ci := 4) (N := 13) (f := 7) (T := TX4) dr dX4_readRoad_48 rfl (hG 3 (9, 13) rfl) rfl (by decide) fl_X4_29 rfl q3_7 ?_
  refine j_getR (ci := 8) (N := 20) (f := 3) (T := TX8) (dr + 1) dX4_readRoad_51 rfl (hdr.1 0 (13, 20) rfl) rfl (by decide) fl_X4_128 rfl (hdr.2 0 3 1 rfl) ?_
  refine j_iload_n dX4_readRoad_54 rfl rfl ?_
  refine j_iald' (j := (Int32.toNatClampNeg x1)) dX4_readRoad_55 rfl (hdr.1 1 (0, 12) rfl) o1 rfl ?_
  refine j_cV (as := [.int ((wI μ (dr + 1) (Int32.toNatClampNeg z1) z0).1 (dr + 1) (Int32.toNatClampNeg x1))]) (rest := [.int x1, .ref (dr + 2)]) dX4_readRoad_56 rfl vw_X4_131 (hG 3 (9, 13) rfl) rfl ⟨Nat.le_of_ble_eq_true rfl, Nat.le_of_ble_eq_true rfl⟩ rfl rfl (fun _ _ => Nat.le_of_ble_eq_true rfl) (e0 ) (fun r μ' hr => ?_)
  obtain ⟨v, rfl, hr⟩ := hr
  exact k0  v μ' hr
theorem b_X4_readRoad_59 {l : Launch} {G : jG} {μ : jM} {φ : jM → Prop} {x1 z0 z1 : Int32} {ψ0 : Int32 → jM → Prop} {dr : Nat} (hG : gGG G) (hP : gPP μ) (hdr : tO gTold pTold G μ dr) (q3_7 : μ.2.2 3 7 = some dr) 
    (o0 : vp_in z1 12) 
    (e0 : jC0 l mX4_readNumber 3 G [.ref 3, .int 1, .int 9] (wI μ (dr + 2) (Int32.toNatClampNeg z1) z0) (pI ψ0)) 
    (k0 : ∀ v μ', ψ0 v μ' → J l mX4_readRoad (jZ0 4 G (pV φ)) G 0 0 75 [.ref 3, .int x1] [.int v, .int x1, .ref (dr + 3)] μ') :
    J l mX4_readRoad (jZ0 4 G (pV φ)) G 0 0 59 [.ref 3, .int x1] [.int z0, .int z1, .ref (dr + 2)] μ := by
  refine j_iast' (j := (Int32.toNatClampNeg z1)) dX4_readRoad_59 rfl (hdr.1 2 (0, 12) rfl) o0 rfl ?_
  refine j_aload_n dX4_readRoad_60 rfl rfl ?_
  refine j_getR (ci := 4) (N := 13) (f := 7) (T := TX4) dr dX4_readRoad_61 rfl (hG 3 (9, 13) rfl) rfl (by decide) fl_X4_29 rfl q3_7 ?_
  refine j_getR (ci := 8) (N := 20) (f := 5) (T := TX8) (dr + 3) dX4_readRoad_64 rfl (hdr.1 0 (13, 20) rfl) rfl (by decide) fl_X4_138 rfl (hdr.2 0 5 3 rfl) ?_
  refine j_iload_n dX4_readRoad_67 rfl rfl ?_
  refine j_aload_n dX4_readRoad_68 rfl rfl ?_
  refine j_iconst 1 dX4_readRoad_69 rfl (by decide) ?_
  refine j_bipush 9 dX4_readRoad_70 rfl (by decide) ?_
  refine j_cV (as := [.int 1, .int 9]) (rest := [.int x1, .ref (dr + 3)]) dX4_readRoad_72 rfl vw_X4_94 (hG 3 (9, 13) rfl) rfl ⟨Nat.le_of_ble_eq_true rfl, Nat.le_of_ble_eq_true rfl⟩ rfl rfl (fun _ _ => Nat.le_of_ble_eq_true rfl) (e0 ) (fun r μ' hr => ?_)
  obtain ⟨v, rfl, hr⟩ := hr
  exact k0  v μ' hr
theorem b_X4_readRoad_75 {l : Launch} {G : jG} {μ : jM} {φ : jM → Prop} {x1 z0 z1 : Int32} {ψ0 : Int32 → jM → Prop} {dr : Nat} (hG : gGG G) (hP : gPP μ) (hdr : tO gTold pTold G μ dr) 
    (o0 : vp_in z1 12) 
    (e0 : jC0 l mX4_kindHere 0 G [.ref 3] (wI μ (dr + 3) (Int32.toNatClampNeg z1) z0) (pI ψ0)) 
    (k0 : ∀ v μ', ψ0 v μ' → J l mX4_readRoad (jZ0 4 G (pV φ)) G 0 0 80 [.ref 3, .int x1] [.int v] μ') :
    J l mX4_readRoad (jZ0 4 G (pV φ)) G 0 0 75 [.ref 3, .int x1] [.int z0, .int z1, .ref (dr + 3)] μ := by
  refine j_iast' (j := (Int32.toNatClampNeg z1)) dX4_readRoad_75 rfl (hdr.1 3 (0, 12) rfl) o0 rfl ?_
  refine j_aload_n dX4_readRoad_76 rfl rfl ?_
  refine j_cV (as := []) (rest := []) dX4_readRoad_77 rfl vw_X4_52 (hG 3 (9, 13) rfl) rfl ⟨Nat.le_of_ble_eq_true rfl, Nat.le_of_ble_eq_true rfl⟩ rfl rfl (fun _ _ => Nat.le_of_ble_eq_true rfl) (e0 ) (fun r μ' hr => ?_)
  obtain ⟨v, rfl, hr⟩ := hr
  exact k0  v μ' hr
theorem b_X4_readRoad_80 {l : Launch} {G : jG} {μ : jM} {φ : jM → Prop} {x1 z0 : Int32} {ψ0 : Int32 → jM → Prop} {ψ1 : jM → Prop} (hG : gGG G) (hP : gPP μ) 
    (e0 : (¬ z0 = (130 : Int32)) → jC0 l mX4_kindHere 0 G [.ref 3] μ (pI ψ0)) 
    (k0 : (¬ z0 = (130 : Int32)) → ∀ v μ', ψ0 v μ' → J l mX4_readRoad (jZ0 4 G (pV φ)) G 0 0 109 [.ref 3, .int x1] [.int v] μ') 
    (e1 : (z0 = (130 : Int32)) → jC0 l mX4_take 1 G [.ref 3] μ (pV ψ1)) 
    (k1 : (z0 = (130 : Int32)) → ∀ μ', ψ1 μ' → J l mX4_readRoad (jZ0 4 G (pV φ)) G 0 0 90 [.ref 3, .int x1] [] μ') :
    J l mX4_readRoad (jZ0 4 G (pV φ)) G 0 0 80 [.ref 3, .int x1] [.int z0] μ := by
  refine j_sipush 130 dX4_readRoad_80 rfl (by decide) ?_
  refine j_icmp_ne 105 dX4_readRoad_83 rfl (by decide) (fun c0 => ?_) (fun c0 => ?_)
  · skip
    refine j_aload_n dX4_readRoad_105 rfl rfl ?_
    refine j_cV (as := []) (rest := []) dX4_readRoad_106 rfl vw_X4_52 (hG 3 (9, 13) rfl) rfl ⟨Nat.le_of_ble_eq_true rfl, Nat.le_of_ble_eq_true rfl⟩ rfl rfl (fun _ _ => Nat.le_of_ble_eq_true rfl) (e0 c0) (fun r μ' hr => ?_)
    obtain ⟨v, rfl, hr⟩ := hr
    exact k0 c0 v μ' hr
  · skip
    refine j_aload_n dX4_readRoad_86 rfl rfl ?_
    refine j_cV (as := []) (rest := []) dX4_readRoad_87 rfl vw_X4_91 (hG 3 (9, 13) rfl) rfl ⟨Nat.le_of_ble_eq_true rfl, Nat.le_of_ble_eq_true rfl⟩ rfl rfl (fun _ _ => Nat.le_of_ble_eq_true rfl) (e1 c0) (fun r μ' hr => ?_)
    obtain ⟨rfl, hr⟩ := hr
    exact k1 c0 μ' hr
theorem b_X4_readRoad_90 {l : Launch} {G : jG} {μ : jM} {φ : jM → Prop} {x1 : Int32} {ψ0 : Int32 → jM → Prop} {dr : Nat} (hG : gGG G) (hP : gPP μ) (hdr : tO gTold pTold G μ dr) (q3_7 : μ.2.2 3 7 = some dr) 
    (e0 : jC0 l mX4_kindHere 0 G [.ref 3] (wI μ dr 6 ((μ.1 dr 6) ||| (1 <<< (x1 &&& 31)))) (pI ψ0)) 
    (k0 : ∀ v μ', ψ0 v μ' → J l mX4_readRoad (jZ0 4 G (pV φ)) G 0 0 109 [.ref 3, .int x1] [.int v] μ') :
    J l mX4_readRoad (jZ0 4 G (pV φ)) G 0 0 90 [.ref 3, .int x1] [] μ := by
  refine j_aload_n dX4_readRoad_90 rfl rfl ?_
  refine j_getR (ci := 4) (N := 13) (f := 7) (T := TX4) dr dX4_readRoad_91 rfl (hG 3 (9, 13) rfl) rfl (by decide) fl_X4_29 rfl q3_7 ?_
  refine j_dup dX4_readRoad_94 rfl (fun _ _ => rfl) ?_
  refine j_getI (ci := 8) (N := 20) (f := 6) (T := TX8) dX4_readRoad_95 rfl (hdr.1 0 (13, 20) rfl) rfl (by decide) fl_X4_141 rfl ?_
  refine j_iconst 1 dX4_readRoad_98 rfl (by decide) ?_
  refine j_iload_n dX4_readRoad_99 rfl rfl ?_
  refine j_ishl dX4_readRoad_100 rfl ?_
  refine j_ior dX4_readRoad_101 rfl ?_
  refine j_putI (ci := 8) (N := 20) (f := 6) (T := TX8) dX4_readRoad_102 rfl (hdr.1 0 (13, 20) rfl) rfl (by decide) fl_X4_141 rfl rfl ?_
  refine j_aload_n dX4_readRoad_105 rfl rfl ?_
  refine j_cV (as := []) (rest := []) dX4_readRoad_106 rfl vw_X4_52 (hG 3 (9, 13) rfl) rfl ⟨Nat.le_of_ble_eq_true rfl, Nat.le_of_ble_eq_true rfl⟩ rfl rfl (fun _ _ => Nat.le_of_ble_eq_true rfl) (e0 ) (fun r μ' hr => ?_)
  obtain ⟨v, rfl, hr⟩ := hr
  exact k0  v μ' hr
theorem b_X4_readRoad_109 {l : Launch} {G : jG} {μ : jM} {φ : jM → Prop} {x1 z0 : Int32} {ψ1 : jM → Prop} {dr : Nat} (hG : gGG G) (hP : gPP μ) (hdr : tO gTold pTold G μ dr) (q3_7 : μ.2.2 3 7 = some dr) 
    (k0 : (¬ z0 = (131 : Int32)) → φ (wI μ dr 1 ((μ.1 dr 1) + 1))) 
    (e1 : (z0 = (131 : Int32)) → jC0 l mX4_take 1 G [.ref 3] μ (pV ψ1)) 
    (k1 : (z0 = (131 : Int32)) → ∀ μ', ψ1 μ' → J l mX4_readRoad (jZ0 4 G (pV φ)) G 0 0 119 [.ref 3, .int x1] [] μ') :
    J l mX4_readRoad (jZ0 4 G (pV φ)) G 0 0 109 [.ref 3, .int x1] [.int z0] μ := by
  refine j_sipush 131 dX4_readRoad_109 rfl (by decide) ?_
  refine j_icmp_ne 134 dX4_readRoad_112 rfl (by decide) (fun c0 => ?_) (fun c0 => ?_)
  · skip
    refine j_aload_n dX4_readRoad_134 rfl rfl ?_
    refine j_getR (ci := 4) (N := 13) (f := 7) (T := TX4) dr dX4_readRoad_135 rfl (hG 3 (9, 13) rfl) rfl (by decide) fl_X4_29 rfl q3_7 ?_
    refine j_dup dX4_readRoad_138 rfl (fun _ _ => rfl) ?_
    refine j_getI (ci := 8) (N := 20) (f := 1) (T := TX8) dX4_readRoad_139 rfl (hdr.1 0 (13, 20) rfl) rfl (by decide) fl_X4_125 rfl ?_
    refine j_iconst 1 dX4_readRoad_142 rfl (by decide) ?_
    refine j_iadd dX4_readRoad_143 rfl ?_
    refine j_putI (ci := 8) (N := 20) (f := 1) (T := TX8) dX4_readRoad_144 rfl (hdr.1 0 (13, 20) rfl) rfl (by decide) fl_X4_125 rfl rfl ?_
    exact j_vret dX4_readRoad_147 rfl (k0 c0)
  · skip
    refine j_aload_n dX4_readRoad_115 rfl rfl ?_
    refine j_cV (as := []) (rest := []) dX4_readRoad_116 rfl vw_X4_91 (hG 3 (9, 13) rfl) rfl ⟨Nat.le_of_ble_eq_true rfl, Nat.le_of_ble_eq_true rfl⟩ rfl rfl (fun _ _ => Nat.le_of_ble_eq_true rfl) (e1 c0) (fun r μ' hr => ?_)
    obtain ⟨rfl, hr⟩ := hr
    exact k1 c0 μ' hr
theorem b_X4_readRoad_119 {l : Launch} {G : jG} {μ : jM} {φ : jM → Prop} {x1 : Int32} {dr : Nat} (hG : gGG G) (hP : gPP μ) (hdr : tO gTold pTold G μ dr) (q3_7 : μ.2.2 3 7 = some dr) 
    (k0 : φ (wI (wI μ dr 7 ((μ.1 dr 7) ||| (1 <<< (x1 &&& 31)))) dr 1 (((wI μ dr 7 ((μ.1 dr 7) ||| (1 <<< (x1 &&& 31)))).1 dr 1) + 1))) :
    J l mX4_readRoad (jZ0 4 G (pV φ)) G 0 0 119 [.ref 3, .int x1] [] μ := by
  refine j_aload_n dX4_readRoad_119 rfl rfl ?_
  refine j_getR (ci := 4) (N := 13) (f := 7) (T := TX4) dr dX4_readRoad_120 rfl (hG 3 (9, 13) rfl) rfl (by decide) fl_X4_29 rfl q3_7 ?_
  refine j_dup dX4_readRoad_123 rfl (fun _ _ => rfl) ?_
  refine j_getI (ci := 8) (N := 20) (f := 7) (T := TX8) dX4_readRoad_124 rfl (hdr.1 0 (13, 20) rfl) rfl (by decide) fl_X4_144 rfl ?_
  refine j_iconst 1 dX4_readRoad_127 rfl (by decide) ?_
  refine j_iload_n dX4_readRoad_128 rfl rfl ?_
  refine j_ishl dX4_readRoad_129 rfl ?_
  refine j_ior dX4_readRoad_130 rfl ?_
  refine j_putI (ci := 8) (N := 20) (f := 7) (T := TX8) dX4_readRoad_131 rfl (hdr.1 0 (13, 20) rfl) rfl (by decide) fl_X4_144 rfl rfl ?_
  refine j_aload_n dX4_readRoad_134 rfl rfl ?_
  refine j_getR (ci := 4) (N := 13) (f := 7) (T := TX4) dr dX4_readRoad_135 rfl (hG 3 (9, 13) rfl) rfl (by decide) fl_X4_29 rfl q3_7 ?_
  refine j_dup dX4_readRoad_138 rfl (fun _ _ => rfl) ?_
  refine j_getI (ci := 8) (N := 20) (f := 1) (T := TX8) dX4_readRoad_139 rfl (hdr.1 0 (13, 20) rfl) rfl (by decide) fl_X4_125 rfl ?_
  refine j_iconst 1 dX4_readRoad_142 rfl (by decide) ?_
  refine j_iadd dX4_readRoad_143 rfl ?_
  refine j_putI (ci := 8) (N := 20) (f := 1) (T := TX8) dX4_readRoad_144 rfl (hdr.1 0 (13, 20) rfl) rfl (by decide) fl_X4_125 rfl rfl ?_
  exact j_vret dX4_readRoad_147 rfl (k0 )
theorem b_X4_readGhost_0 {l : Launch} {G : jG} {μ : jM} {φ : jM → Prop} {ψ0 : jM → Prop} {ψ1 : jM → Prop} {dr : Nat} (hG : gGG G) (hP : gPP μ) (hdr : tO gTold pTold G μ dr) (q3_7 : μ.2.2 3 7 = some dr) 
    (e0 : ((μ.1 dr 2) < (7 : Int32)) → jC0 l mX4_take 1 G [.ref 3] μ (pV ψ0)) 
    (k0 : ((μ.1 dr 2) < (7 : Int32)) → ∀ μ', ψ0 μ' → J l mX4_readGhost (jZ0 4 G (pV φ)) G 0 0 24 [.ref 3, .int (μ.1 dr 2)] [] μ') 
    (e1 : (¬ ((μ.1 dr 2) < (7 : Int32))) → jC0 l mX4_failHere 0 G [.ref 3, .int 2] μ (pV ψ1)) 
    (k1 : (¬ ((μ.1 dr 2) < (7 : Int32))) → ∀ μ', ψ1 μ' → J l mX4_readGhost (jZ0 4 G (pV φ)) G 0 0 19 [.null, .null] [] μ') :
    J l mX4_readGhost (jZ0 4 G (pV φ)) G 0 0 0 [.ref 3, .null] [] μ := by
  refine j_aload_n dX4_readGhost_0 rfl rfl ?_
  refine j_getR (ci := 4) (N := 13) (f := 7) (T := TX4) dr dX4_readGhost_1 rfl (hG 3 (9, 13) rfl) rfl (by decide) fl_X4_29 rfl q3_7 ?_
  refine j_getI (ci := 8) (N := 20) (f := 2) (T := TX8) dX4_readGhost_4 rfl (hdr.1 0 (13, 20) rfl) rfl (by decide) fl_X4_147 rfl ?_
  refine j_istore_n (ls' := [.ref 3, .int (μ.1 dr 2)]) dX4_readGhost_7 rfl rfl (Nat.le_of_ble_eq_true rfl) rfl ?_
  refine j_iload_n dX4_readGhost_8 rfl rfl ?_
  refine j_bipush 7 dX4_readGhost_9 rfl (by decide) ?_
  refine j_icmp_lt 20 dX4_readGhost_11 rfl (by decide) (fun c0 => ?_) (fun c0 => ?_)
  · skip
    refine j_aload_n dX4_readGhost_20 rfl rfl ?_
    refine j_cV (as := []) (rest := []) dX4_readGhost_21 rfl vw_X4_91 (hG 3 (9, 13) rfl) rfl ⟨Nat.le_of_ble_eq_true rfl, Nat.le_of_ble_eq_true rfl⟩ rfl rfl (fun _ _ => Nat.le_of_ble_eq_true rfl) (e0 c0) (fun r μ' hr => ?_)
    obtain ⟨rfl, hr⟩ := hr
    exact k0 c0 μ' hr
  · skip
    refine j_aload_n dX4_readGhost_14 rfl rfl ?_
    refine j_iconst 2 dX4_readGhost_15 rfl (by decide) ?_
    refine j_cV (as := [.int 2]) (rest := []) dX4_readGhost_16 rfl vw_X4_110 (hG 3 (9, 13) rfl) rfl ⟨Nat.le_of_ble_eq_true rfl, Nat.le_of_ble_eq_true rfl⟩ rfl rfl (fun _ _ => Nat.le_of_ble_eq_true rfl) (e1 c0) (fun r μ' hr => ?_)
    obtain ⟨rfl, hr⟩ := hr
    refine j_forget (ls' := [.null, .null]) ⟨Or.inl rfl, Or.inl rfl, trivial⟩ ?_
    exact k1 c0 μ' hr
theorem b_X4_readGhost_19 {l : Launch} {G : jG} {μ : jM} {φ : jM → Prop} (hG : gGG G) (hP : gPP μ) 
    (k0 : φ μ) :
    J l mX4_readGhost (jZ0 4 G (pV φ)) G 0 0 19 [.null, .null] [] μ := by
  exact j_vret dX4_readGhost_19 rfl (k0 )
theorem b_X4_readGhost_24 {l : Launch} {G : jG} {μ : jM} {φ : jM → Prop} {x1 : Int32} {ψ0 : jM → Prop} (hG : gGG G) (hP : gPP μ) 
    (e0 : jC0 l mX4_readNewName 3 G [.ref 3, .ref 10, .int x1] μ (pV ψ0)) 
    (k0 : ∀ μ', ψ0 μ' → J l mX4_readGhost (jZ0 4 G (pV φ)) G 0 0 33 [.ref 3, .int x1] [] μ') :
    J l mX4_readGhost (jZ0 4 G (pV φ)) G 0 0 24 [.ref 3, .int x1] [] μ := by
  refine j_aload_n dX4_readGhost_24 rfl rfl ?_
  refine j_aload_n dX4_readGhost_25 rfl rfl ?_
  refine j_getR (ci := 4) (N := 13) (f := 3) (T := TX4) 10 dX4_readGhost_26 rfl (hG 3 (9, 13) rfl) rfl (by decide) fl_X4_22 rfl (hP 3 3 10 rfl) ?_
  refine j_iload_n dX4_readGhost_29 rfl rfl ?_
  refine j_cV (as := [.ref 10, .int x1]) (rest := []) dX4_readGhost_30 rfl vw_X4_121 (hG 3 (9, 13) rfl) rfl ⟨Nat.le_of_ble_eq_true rfl, Nat.le_of_ble_eq_true rfl⟩ rfl rfl (fun _ _ => Nat.le_of_ble_eq_true rfl) (e0 ) (fun r μ' hr => ?_)
  obtain ⟨rfl, hr⟩ := hr
  exact k0  μ' hr
theorem b_X4_readGhost_33 {l : Launch} {G : jG} {μ : jM} {φ : jM → Prop} {x1 : Int32} {ψ0 : Int32 → jM → Prop} {dr : Nat} (hG : gGG G) (hP : gPP μ) (hdr : tO gTold pTold G μ dr) (q3_7 : μ.2.2 3 7 = some dr) 
    (e0 : jC0 l mX4_readOldPlace 3 G [.ref 3, .int (-1)] μ (pI ψ0)) 
    (k0 : ∀ v μ', ψ0 v μ' → J l mX4_readGhost (jZ0 4 G (pV φ)) G 0 0 46 [.ref 3, .int x1] [.int v, .int x1, .ref (dr + 4)] μ') :
    J l mX4_readGhost (jZ0 4 G (pV φ)) G 0 0 33 [.ref 3, .int x1] [] μ := by
  refine j_aload_n dX4_readGhost_33 rfl rfl ?_
  refine j_getR (ci := 4) (N := 13) (f := 7) (T := TX4) dr dX4_readGhost_34 rfl (hG 3 (9, 13) rfl) rfl (by decide) fl_X4_29 rfl q3_7 ?_
  refine j_getR (ci := 8) (N := 20) (f := 8) (T := TX8) (dr + 4) dX4_readGhost_37 rfl (hdr.1 0 (13, 20) rfl) rfl (by decide) fl_X4_150 rfl (hdr.2 0 8 4 rfl) ?_
  refine j_iload_n dX4_readGhost_40 rfl rfl ?_
  refine j_aload_n dX4_readGhost_41 rfl rfl ?_
  refine j_iconst (-1) dX4_readGhost_42 rfl (by decide) ?_
  refine j_cV (as := [.int (-1)]) (rest := [.int x1, .ref (dr + 4)]) dX4_readGhost_43 rfl vw_X4_131 (hG 3 (9, 13) rfl) rfl ⟨Nat.le_of_ble_eq_true rfl, Nat.le_of_ble_eq_true rfl⟩ rfl rfl (fun _ _ => Nat.le_of_ble_eq_true rfl) (e0 ) (fun r μ' hr => ?_)
  obtain ⟨v, rfl, hr⟩ := hr
  exact k0  v μ' hr
theorem b_X4_readGhost_46 {l : Launch} {G : jG} {μ : jM} {φ : jM → Prop} {x1 z0 z1 : Int32} {ψ0 : Int32 → jM → Prop} {dr : Nat} (hG : gGG G) (hP : gPP μ) (hdr : tO gTold pTold G μ dr) (q3_7 : μ.2.2 3 7 = some dr) 
    (o0 : vp_in z1 7) 
    (o1 : vp_in x1 7) 
    (e0 : jC0 l mX4_readOldPlace 3 G [.ref 3, .int ((wI μ (dr + 4) (Int32.toNatClampNeg z1) z0).1 (dr + 4) (Int32.toNatClampNeg x1))] (wI μ (dr + 4) (Int32.toNatClampNeg z1) z0) (pI ψ0)) 
    (k0 : ∀ v μ', ψ0 v μ' → J l mX4_readGhost (jZ0 4 G (pV φ)) G 0 0 68 [.ref 3, .int x1] [.int v, .int x1, .ref (dr + 5)] μ') :
    J l mX4_readGhost (jZ0 4 G (pV φ)) G 0 0 46 [.ref 3, .int x1] [.int z0, .int z1, .ref (dr + 4)] μ := by
  refine j_iast' (j := (Int32.toNatClampNeg z1)) dX4_readGhost_46 rfl (hdr.1 4 (0, 7) rfl) o0 rfl ?_
  refine j_aload_n dX4_readGhost_47 rfl rfl ?_
  refine j_getR (ci := 4) (N := 13) (f := 7) (T := TX4) dr dX4_readGhost_48 rfl (hG 3 (9, 13) rfl) rfl (by decide) fl_X4_29 rfl q3_7 ?_
  refine j_getR (ci := 8) (N := 20) (f := 9) (T := TX8) (dr + 5) dX4_readGhost_51 rfl (hdr.1 0 (13, 20) rfl) rfl (by decide) fl_X4_153 rfl (hdr.2 0 9 5 rfl) ?_
  refine j_iload_n dX4_readGhost_54 rfl rfl ?_
  refine j_aload_n dX4_readGhost_55 rfl rfl ?_
  refine j_aload_n dX4_readGhost_56 rfl rfl ?_
  refine j_getR (ci := 4) (N := 13) (f := 7) (T := TX4) dr dX4_readGhost_57 rfl (hG 3 (9, 13) rfl) rfl (by decide) fl_X4_29 rfl q3_7 ?_
  refine j_getR (ci := 8) (N := 20) (f := 8) (T := TX8) (dr + 4) dX4_readGhost_60 rfl (hdr.1 0 (13, 20) rfl) rfl (by decide) fl_X4_150 rfl (hdr.2 0 8 4 rfl) ?_
  refine j_iload_n dX4_readGhost_63 rfl rfl ?_
  refine j_iald' (j := (Int32.toNatClampNeg x1)) dX4_readGhost_64 rfl (hdr.1 4 (0, 7) rfl) o1 rfl ?_
  refine j_cV (as := [.int ((wI μ (dr + 4) (Int32.toNatClampNeg z1) z0).1 (dr + 4) (Int32.toNatClampNeg x1))]) (rest := [.int x1, .ref (dr + 5)]) dX4_readGhost_65 rfl vw_X4_131 (hG 3 (9, 13) rfl) rfl ⟨Nat.le_of_ble_eq_true rfl, Nat.le_of_ble_eq_true rfl⟩ rfl rfl (fun _ _ => Nat.le_of_ble_eq_true rfl) (e0 ) (fun r μ' hr => ?_)
  obtain ⟨v, rfl, hr⟩ := hr
  exact k0  v μ' hr
theorem b_X4_readGhost_68 {l : Launch} {G : jG} {μ : jM} {φ : jM → Prop} {x1 z0 z1 : Int32} {ψ0 : Int32 → jM → Prop} {dr : Nat} (hG : gGG G) (hP : gPP μ) (hdr : tO gTold pTold G μ dr) (q3_7 : μ.2.2 3 7 = some dr) 
    (o0 : vp_in z1 7) 
    (e0 : jC0 l mX4_readNumber 3 G [.ref 3, .int 0, .int 9] (wI μ (dr + 5) (Int32.toNatClampNeg z1) z0) (pI ψ0)) 
    (k0 : ∀ v μ', ψ0 v μ' → J l mX4_readGhost (jZ0 4 G (pV φ)) G 0 0 84 [.ref 3, .int x1] [.int v, .int x1, .ref (dr + 6)] μ') :
    J l mX4_readGhost (jZ0 4 G (pV φ)) G 0 0 68 [.ref 3, .int x1] [.int z0, .int z1, .ref (dr + 5)] μ := by
  refine j_iast' (j := (Int32.toNatClampNeg z1)) dX4_readGhost_68 rfl (hdr.1 5 (0, 7) rfl) o0 rfl ?_
  refine j_aload_n dX4_readGhost_69 rfl rfl ?_
  refine j_getR (ci := 4) (N := 13) (f := 7) (T := TX4) dr dX4_readGhost_70 rfl (hG 3 (9, 13) rfl) rfl (by decide) fl_X4_29 rfl q3_7 ?_
  refine j_getR (ci := 8) (N := 20) (f := 10) (T := TX8) (dr + 6) dX4_readGhost_73 rfl (hdr.1 0 (13, 20) rfl) rfl (by decide) fl_X4_156 rfl (hdr.2 0 10 6 rfl) ?_
  refine j_iload_n dX4_readGhost_76 rfl rfl ?_
  refine j_aload_n dX4_readGhost_77 rfl rfl ?_
  refine j_iconst 0 dX4_readGhost_78 rfl (by decide) ?_
  refine j_bipush 9 dX4_readGhost_79 rfl (by decide) ?_
  refine j_cV (as := [.int 0, .int 9]) (rest := [.int x1, .ref (dr + 6)]) dX4_readGhost_81 rfl vw_X4_94 (hG 3 (9, 13) rfl) rfl ⟨Nat.le_of_ble_eq_true rfl, Nat.le_of_ble_eq_true rfl⟩ rfl rfl (fun _ _ => Nat.le_of_ble_eq_true rfl) (e0 ) (fun r μ' hr => ?_)
  obtain ⟨v, rfl, hr⟩ := hr
  exact k0  v μ' hr
theorem b_X4_readGhost_84 {l : Launch} {G : jG} {μ : jM} {φ : jM → Prop} {x1 z0 z1 : Int32} {ψ0 : Int32 → jM → Prop} {dr : Nat} (hG : gGG G) (hP : gPP μ) (hdr : tO gTold pTold G μ dr) (q3_7 : μ.2.2 3 7 = some dr) 
    (o0 : vp_in z1 7) 
    (e0 : jC0 l mX4_readNumber 3 G [.ref 3, .int 0, .int 99] (wI μ (dr + 6) (Int32.toNatClampNeg z1) z0) (pI ψ0)) 
    (k0 : ∀ v μ', ψ0 v μ' → J l mX4_readGhost (jZ0 4 G (pV φ)) G 0 0 100 [.ref 3, .int x1] [.int v, .int x1, .ref (dr + 7)] μ') :
    J l mX4_readGhost (jZ0 4 G (pV φ)) G 0 0 84 [.ref 3, .int x1] [.int z0, .int z1, .ref (dr + 6)] μ := by
  refine j_iast' (j := (Int32.toNatClampNeg z1)) dX4_readGhost_84 rfl (hdr.1 6 (0, 7) rfl) o0 rfl ?_
  refine j_aload_n dX4_readGhost_85 rfl rfl ?_
  refine j_getR (ci := 4) (N := 13) (f := 7) (T := TX4) dr dX4_readGhost_86 rfl (hG 3 (9, 13) rfl) rfl (by decide) fl_X4_29 rfl q3_7 ?_
  refine j_getR (ci := 8) (N := 20) (f := 11) (T := TX8) (dr + 7) dX4_readGhost_89 rfl (hdr.1 0 (13, 20) rfl) rfl (by decide) fl_X4_159 rfl (hdr.2 0 11 7 rfl) ?_
  refine j_iload_n dX4_readGhost_92 rfl rfl ?_
  refine j_aload_n dX4_readGhost_93 rfl rfl ?_
  refine j_iconst 0 dX4_readGhost_94 rfl (by decide) ?_
  refine j_bipush 99 dX4_readGhost_95 rfl (by decide) ?_
  refine j_cV (as := [.int 0, .int 99]) (rest := [.int x1, .ref (dr + 7)]) dX4_readGhost_97 rfl vw_X4_94 (hG 3 (9, 13) rfl) rfl ⟨Nat.le_of_ble_eq_true rfl, Nat.le_of_ble_eq_true rfl⟩ rfl rfl (fun _ _ => Nat.le_of_ble_eq_true rfl) (e0 ) (fun r μ' hr => ?_)
  obtain ⟨v, rfl, hr⟩ := hr
  exact k0  v μ' hr
theorem b_X4_readGhost_100 {l : Launch} {G : jG} {μ : jM} {φ : jM → Prop} {x1 z0 z1 : Int32} {ψ0 : Int32 → jM → Prop} {dr : Nat} (hG : gGG G) (hP : gPP μ) (hdr : tO gTold pTold G μ dr) (q3_7 : μ.2.2 3 7 = some dr) 
    (o0 : vp_in z1 7) 
    (e0 : jC0 l mX4_readNumber 3 G [.ref 3, .int 1, .int 9] (wI μ (dr + 7) (Int32.toNatClampNeg z1) z0) (pI ψ0)) 
    (k0 : ∀ v μ', ψ0 v μ' → J l mX4_readGhost (jZ0 4 G (pV φ)) G 0 0 116 [.ref 3, .null] [.int v, .int x1, .ref (dr + 8)] μ') :
    J l mX4_readGhost (jZ0 4 G (pV φ)) G 0 0 100 [.ref 3, .int x1] [.int z0, .int z1, .ref (dr + 7)] μ := by
  refine j_iast' (j := (Int32.toNatClampNeg z1)) dX4_readGhost_100 rfl (hdr.1 7 (0, 7) rfl) o0 rfl ?_
  refine j_aload_n dX4_readGhost_101 rfl rfl ?_
  refine j_getR (ci := 4) (N := 13) (f := 7) (T := TX4) dr dX4_readGhost_102 rfl (hG 3 (9, 13) rfl) rfl (by decide) fl_X4_29 rfl q3_7 ?_
  refine j_getR (ci := 8) (N := 20) (f := 12) (T := TX8) (dr + 8) dX4_readGhost_105 rfl (hdr.1 0 (13, 20) rfl) rfl (by decide) fl_X4_162 rfl (hdr.2 0 12 8 rfl) ?_
  refine j_iload_n dX4_readGhost_108 rfl rfl ?_
  refine j_aload_n dX4_readGhost_109 rfl rfl ?_
  refine j_iconst 1 dX4_readGhost_110 rfl (by decide) ?_
  refine j_bipush 9 dX4_readGhost_111 rfl (by decide) ?_
  refine j_cV (as := [.int 1, .int 9]) (rest := [.int x1, .ref (dr + 8)]) dX4_readGhost_113 rfl vw_X4_94 (hG 3 (9, 13) rfl) rfl ⟨Nat.le_of_ble_eq_true rfl, Nat.le_of_ble_eq_true rfl⟩ rfl rfl (fun _ _ => Nat.le_of_ble_eq_true rfl) (e0 ) (fun r μ' hr => ?_)
  obtain ⟨v, rfl, hr⟩ := hr
  refine j_forget (ls' := [.ref 3, .null]) ⟨Or.inr rfl, Or.inl rfl, trivial⟩ ?_
  exact k0  v μ' hr
theorem b_X4_readGhost_116 {l : Launch} {G : jG} {μ : jM} {φ : jM → Prop} {z0 z1 : Int32} {dr : Nat} (hG : gGG G) (hP : gPP μ) (hdr : tO gTold pTold G μ dr) (q3_7 : μ.2.2 3 7 = some dr) 
    (o0 : vp_in z1 7) 
    (k0 : φ (wI (wI μ (dr + 8) (Int32.toNatClampNeg z1) z0) dr 2 (((wI μ (dr + 8) (Int32.toNatClampNeg z1) z0).1 dr 2) + 1))) :
    J l mX4_readGhost (jZ0 4 G (pV φ)) G 0 0 116 [.ref 3, .null] [.int z0, .int z1, .ref (dr + 8)] μ := by
  refine j_iast' (j := (Int32.toNatClampNeg z1)) dX4_readGhost_116 rfl (hdr.1 8 (0, 7) rfl) o0 rfl ?_
  refine j_aload_n dX4_readGhost_117 rfl rfl ?_
  refine j_getR (ci := 4) (N := 13) (f := 7) (T := TX4) dr dX4_readGhost_118 rfl (hG 3 (9, 13) rfl) rfl (by decide) fl_X4_29 rfl q3_7 ?_
  refine j_dup dX4_readGhost_121 rfl (fun _ _ => rfl) ?_
  refine j_getI (ci := 8) (N := 20) (f := 2) (T := TX8) dX4_readGhost_122 rfl (hdr.1 0 (13, 20) rfl) rfl (by decide) fl_X4_147 rfl ?_
  refine j_iconst 1 dX4_readGhost_125 rfl (by decide) ?_
  refine j_iadd dX4_readGhost_126 rfl ?_
  refine j_putI (ci := 8) (N := 20) (f := 2) (T := TX8) dX4_readGhost_127 rfl (hdr.1 0 (13, 20) rfl) rfl (by decide) fl_X4_147 rfl rfl ?_
  exact j_vret dX4_readGhost_130 rfl (k0 )
theorem b_X4_readNewName_0 {l : Launch} {G : jG} {μ : jM} {φ : jM → Prop} {x2 : Int32} {ψ0 : Int32 → jM → Prop} {nN nm : Nat} (hG : gGG G) (hP : gPP μ) (hgnm : G[nm]? = some (3, nN)) 
    (o0 : vp_in (μ.1 3 8) 401) 
    (e0 : jC0 l mX4_expect 2 G [.ref 3, .int 2] μ (pI ψ0)) 
    (k0 : ∀ v μ', ψ0 v μ' → J l mX4_readNewName (jZ0 3 G (pV φ)) G 0 0 32 [.ref 3, .ref nm, .int x2, .long (μ.2.1 7 (Int32.toNatClampNeg (μ.1 3 8))), .null, .int (μ.1 6 (Int32.toNatClampNeg (μ.1 3 8))), .null] [.int v] μ') :
    J l mX4_readNewName (jZ0 3 G (pV φ)) G 0 0 0 [.ref 3, .ref nm, .int x2, .null, .null, .null, .null] [] μ := by
  refine j_aload_n dX4_readNewName_0 rfl rfl ?_
  refine j_getR (ci := 4) (N := 13) (f := 1) (T := TX4) 4 dX4_readNewName_1 rfl (hG 3 (9, 13) rfl) rfl (by decide) fl_X4_12 rfl (hP 3 1 4 rfl) ?_
  refine j_getR (ci := 7) (N := 4) (f := 2) (T := TX7) 7 dX4_readNewName_4 rfl (hG 4 (12, 4) rfl) rfl (by decide) fl_X4_165 rfl (hP 4 2 7 rfl) ?_
  refine j_aload_n dX4_readNewName_7 rfl rfl ?_
  refine j_getI (ci := 4) (N := 13) (f := 8) (T := TX4) dX4_readNewName_8 rfl (hG 3 (9, 13) rfl) rfl (by decide) fl_X4_42 rfl ?_
  refine j_lald' (j := (Int32.toNatClampNeg (μ.1 3 8))) dX4_readNewName_11 rfl (hG 7 (3, 401) rfl) o0 rfl ?_
  refine j_lstore_n (ls' := [.ref 3, .ref nm, .int x2, .long (μ.2.1 7 (Int32.toNatClampNeg (μ.1 3 8))), .null, .null, .null]) dX4_readNewName_12 rfl rfl (Nat.le_of_ble_eq_true rfl) rfl ?_
  refine j_aload_n dX4_readNewName_13 rfl rfl ?_
  refine j_getR (ci := 4) (N := 13) (f := 1) (T := TX4) 4 dX4_readNewName_14 rfl (hG 3 (9, 13) rfl) rfl (by decide) fl_X4_12 rfl (hP 3 1 4 rfl) ?_
  refine j_getR (ci := 7) (N := 4) (f := 1) (T := TX7) 6 dX4_readNewName_17 rfl (hG 4 (12, 4) rfl) rfl (by decide) fl_X4_168 rfl (hP 4 1 6 rfl) ?_
  refine j_aload_n dX4_readNewName_20 rfl rfl ?_
  refine j_getI (ci := 4) (N := 13) (f := 8) (T := TX4) dX4_readNewName_21 rfl (hG 3 (9, 13) rfl) rfl (by decide) fl_X4_42 rfl ?_
  refine j_iald' (j := (Int32.toNatClampNeg (μ.1 3 8))) dX4_readNewName_24 rfl (hG 6 (0, 401) rfl) o0 rfl ?_
  refine j_istore (ls' := [.ref 3, .ref nm, .int x2, .long (μ.2.1 7 (Int32.toNatClampNeg (μ.1 3 8))), .null, .int (μ.1 6 (Int32.toNatClampNeg (μ.1 3 8))), .null]) dX4_readNewName_25 rfl (Nat.le_of_ble_eq_true rfl) rfl ?_
  refine j_aload_n dX4_readNewName_27 rfl rfl ?_
  refine j_iconst 2 dX4_readNewName_28 rfl (by decide) ?_
  refine j_cV (as := [.int 2]) (rest := []) dX4_readNewName_29 rfl vw_X4_114 (hG 3 (9, 13) rfl) rfl ⟨Nat.le_of_ble_eq_true rfl, Nat.le_of_ble_eq_true rfl⟩ rfl rfl (fun _ _ => Nat.le_of_ble_eq_true rfl) (e0 ) (fun r μ' hr => ?_)
  obtain ⟨v, rfl, hr⟩ := hr
  exact k0  v μ' hr
theorem b_X4_readNewName_32 {l : Launch} {G : jG} {μ : jM} {φ : jM → Prop} {x2 x5 z0 : Int32} {x3 : Int64} {ψ0 : Int32 → jM → Prop} {dr nN nm : Nat} (hG : gGG G) (hP : gPP μ) (hgnm : G[nm]? = some (3, nN)) (hdr : tO gTold pTold G μ dr) (q3_7 : μ.2.2 3 7 = some dr) 
    (e0 : (¬ z0 = (0 : Int32)) → jC0 l mX4_numberOf 0 G [.long x3, .ref 9, .int (μ.1 dr 0)] μ (pI ψ0)) 
    (k0 : (¬ z0 = (0 : Int32)) → ∀ v μ', ψ0 v μ' → J l mX4_readNewName (jZ0 3 G (pV φ)) G 0 0 51 [.ref 3, .ref nm, .int x2, .long x3, .null, .int x5, .null] [.int v] μ') 
    (k1 : (z0 = (0 : Int32)) → φ μ) :
    J l mX4_readNewName (jZ0 3 G (pV φ)) G 0 0 32 [.ref 3, .ref nm, .int x2, .long x3, .null, .int x5, .null] [.int z0] μ := by
  refine j_if_ne 36 dX4_readNewName_32 rfl (by decide) (fun c0 => ?_) (fun c0 => ?_)
  · skip
    refine j_lload_n dX4_readNewName_36 rfl rfl ?_
    refine j_aload_n dX4_readNewName_37 rfl rfl ?_
    refine j_getR (ci := 4) (N := 13) (f := 2) (T := TX4) 9 dX4_readNewName_38 rfl (hG 3 (9, 13) rfl) rfl (by decide) fl_X4_18 rfl (hP 3 2 9 rfl) ?_
    refine j_aload_n dX4_readNewName_41 rfl rfl ?_
    refine j_getR (ci := 4) (N := 13) (f := 7) (T := TX4) dr dX4_readNewName_42 rfl (hG 3 (9, 13) rfl) rfl (by decide) fl_X4_29 rfl q3_7 ?_
    refine j_getI (ci := 8) (N := 20) (f := 0) (T := TX8) dX4_readNewName_45 rfl (hdr.1 0 (13, 20) rfl) rfl (by decide) fl_X4_118 rfl ?_
    refine j_cS (as := [.long x3, .ref 9, .int (μ.1 dr 0)]) (rest := []) dX4_readNewName_48 rfl vw_X4_170 ⟨Nat.le_of_ble_eq_true rfl, Nat.le_of_ble_eq_true rfl⟩ rfl rfl (fun _ _ => Nat.le_of_ble_eq_true rfl) (e0 c0) (fun r μ' hr => ?_)
    obtain ⟨v, rfl, hr⟩ := hr
    exact k0 c0 v μ' hr
  · skip
    exact j_vret dX4_readNewName_35 rfl (k1 c0)
theorem b_X4_readNewName_51 {l : Launch} {G : jG} {μ : jM} {φ : jM → Prop} {x2 x5 z0 : Int32} {x3 : Int64} {ψ1 : jM → Prop} {ψ2 : Int32 → jM → Prop} {dr nN nm : Nat} (hG : gGG G) (hP : gPP μ) (hgnm : G[nm]? = some (3, nN)) (hdr : tO gTold pTold G μ dr) (q3_7 : μ.2.2 3 7 = some dr) 
    (o0 : (¬ z0 = ((-1) : Int32)) → (1 = (0 : Int32)) → vp_in x2 nN) 
    (k0 : (¬ z0 = ((-1) : Int32)) → (1 = (0 : Int32)) → φ (wL μ nm (Int32.toNatClampNeg x2) x3)) 
    (e1 : (¬ z0 = ((-1) : Int32)) → (¬ (1 = (0 : Int32))) → jC0 l mX4_failSense 0 G [.ref 3, .int 3, .int x5] μ (pV ψ1)) 
    (k1 : (¬ z0 = ((-1) : Int32)) → (¬ (1 = (0 : Int32))) → ∀ μ', ψ1 μ' → J l mX4_readNewName (jZ0 3 G (pV φ)) G 0 0 93 [.null, .ref nm, .int x2, .long x3, .null, .null, .null] [] μ') 
    (e2 : (z0 = ((-1) : Int32)) → jC0 l mX4_numberOf 0 G [.long x3, .ref 10, .int (μ.1 dr 2)] μ (pI ψ2)) 
    (k2 : (z0 = ((-1) : Int32)) → ∀ v μ', ψ2 v μ' → J l mX4_readNewName (jZ0 3 G (pV φ)) G 0 0 70 [.ref 3, .ref nm, .int x2, .long x3, .null, .int x5, .null] [.int v] μ') :
    J l mX4_readNewName (jZ0 3 G (pV φ)) G 0 0 51 [.ref 3, .ref nm, .int x2, .long x3, .null, .int x5, .null] [.int z0] μ := by
  refine j_iconst (-1) dX4_readNewName_51 rfl (by decide) ?_
  refine j_icmp_ne 74 dX4_readNewName_52 rfl (by decide) (fun c0 => ?_) (fun c0 => ?_)
  · skip
    refine j_iconst 1 dX4_readNewName_74 rfl (by decide) ?_
    refine j_goto 79 dX4_readNewName_75 (by decide) ?_
    refine j_istore (ls' := [.ref 3, .ref nm, .int x2, .long x3, .null, .int x5, .int 1]) dX4_readNewName_79 rfl (Nat.le_of_ble_eq_true rfl) rfl ?_
    refine j_iload dX4_readNewName_81 rfl rfl ?_
    refine j_if_eq 93 dX4_readNewName_83 rfl (by decide) (fun c1 => ?_) (fun c1 => ?_)
    · skip
      refine j_aload_n dX4_readNewName_93 rfl rfl ?_
      refine j_iload_n dX4_readNewName_94 rfl rfl ?_
      refine j_lload_n dX4_readNewName_95 rfl rfl ?_
      refine j_last' (j := (Int32.toNatClampNeg x2)) dX4_readNewName_96 rfl hgnm (o0 c0 c1) rfl ?_
      exact j_vret dX4_readNewName_97 rfl (k0 c0 c1)
    · skip
      refine j_aload_n dX4_readNewName_86 rfl rfl ?_
      refine j_iconst 3 dX4_readNewName_87 rfl (by decide) ?_
      refine j_iload dX4_readNewName_88 rfl rfl ?_
      refine j_cV (as := [.int 3, .int x5]) (rest := []) dX4_readNewName_90 rfl vw_X4_174 (hG 3 (9, 13) rfl) rfl ⟨Nat.le_of_ble_eq_true rfl, Nat.le_of_ble_eq_true rfl⟩ rfl rfl (fun _ _ => Nat.le_of_ble_eq_true rfl) (e1 c0 c1) (fun r μ' hr => ?_)
      obtain ⟨rfl, hr⟩ := hr
      refine j_forget (ls' := [.null, .ref nm, .int x2, .long x3, .null, .null, .null]) ⟨Or.inl rfl, Or.inr rfl, Or.inr rfl, Or.inr rfl, Or.inr rfl, Or.inl rfl, Or.inl rfl, trivial⟩ ?_
      exact k1 c0 c1 μ' hr
  · skip
    refine j_lload_n dX4_readNewName_55 rfl rfl ?_
    refine j_aload_n dX4_readNewName_56 rfl rfl ?_
    refine j_getR (ci := 4) (N := 13) (f := 3) (T := TX4) 10 dX4_readNewName_57 rfl (hG 3 (9, 13) rfl) rfl (by decide) fl_X4_22 rfl (hP 3 3 10 rfl) ?_
    refine j_aload_n dX4_readNewName_60 rfl rfl ?_
    refine j_getR (ci := 4) (N := 13) (f := 7) (T := TX4) dr dX4_readNewName_61 rfl (hG 3 (9, 13) rfl) rfl (by decide) fl_X4_29 rfl q3_7 ?_
    refine j_getI (ci := 8) (N := 20) (f := 2) (T := TX8) dX4_readNewName_64 rfl (hdr.1 0 (13, 20) rfl) rfl (by decide) fl_X4_147 rfl ?_
    refine j_cS (as := [.long x3, .ref 10, .int (μ.1 dr 2)]) (rest := []) dX4_readNewName_67 rfl vw_X4_170 ⟨Nat.le_of_ble_eq_true rfl, Nat.le_of_ble_eq_true rfl⟩ rfl rfl (fun _ _ => Nat.le_of_ble_eq_true rfl) (e2 c0) (fun r μ' hr => ?_)
    obtain ⟨v, rfl, hr⟩ := hr
    exact k2 c0 v μ' hr
theorem b_X4_readNewName_70 {l : Launch} {G : jG} {μ : jM} {φ : jM → Prop} {x2 x5 z0 : Int32} {x3 : Int64} {ψ1 : jM → Prop} {ψ3 : jM → Prop} {nN nm : Nat} (hG : gGG G) (hP : gPP μ) (hgnm : G[nm]? = some (3, nN)) 
    (o0 : (z0 = ((-1) : Int32)) → (0 = (0 : Int32)) → vp_in x2 nN) 
    (k0 : (z0 = ((-1) : Int32)) → (0 = (0 : Int32)) → φ (wL μ nm (Int32.toNatClampNeg x2) x3)) 
    (e1 : (z0 = ((-1) : Int32)) → (¬ (0 = (0 : Int32))) → jC0 l mX4_failSense 0 G [.ref 3, .int 3, .int x5] μ (pV ψ1)) 
    (k1 : (z0 = ((-1) : Int32)) → (¬ (0 = (0 : Int32))) → ∀ μ', ψ1 μ' → J l mX4_readNewName (jZ0 3 G (pV φ)) G 0 0 93 [.null, .ref nm, .int x2, .long x3, .null, .null, .null] [] μ') 
    (o1 : (¬ (z0 = ((-1) : Int32))) → (1 = (0 : Int32)) → vp_in x2 nN) 
    (k2 : (¬ (z0 = ((-1) : Int32))) → (1 = (0 : Int32)) → φ (wL μ nm (Int32.toNatClampNeg x2) x3)) 
    (e3 : (¬ (z0 = ((-1) : Int32))) → (¬ (1 = (0 : Int32))) → jC0 l mX4_failSense 0 G [.ref 3, .int 3, .int x5] μ (pV ψ3)) 
    (k3 : (¬ (z0 = ((-1) : Int32))) → (¬ (1 = (0 : Int32))) → ∀ μ', ψ3 μ' → J l mX4_readNewName (jZ0 3 G (pV φ)) G 0 0 93 [.null, .ref nm, .int x2, .long x3, .null, .null, .null] [] μ') :
    J l mX4_readNewName (jZ0 3 G (pV φ)) G 0 0 70 [.ref 3, .ref nm, .int x2, .long x3, .null, .int x5, .null] [.int z0] μ := by
  refine j_iconst (-1) dX4_readNewName_70 rfl (by decide) ?_
  refine j_icmp_eq 78 dX4_readNewName_71 rfl (by decide) (fun c0 => ?_) (fun c0 => ?_)
  · skip
    refine j_iconst 0 dX4_readNewName_78 rfl (by decide) ?_
    refine j_istore (ls' := [.ref 3, .ref nm, .int x2, .long x3, .null, .int x5, .int 0]) dX4_readNewName_79 rfl (Nat.le_of_ble_eq_true rfl) rfl ?_
    refine j_iload dX4_readNewName_81 rfl rfl ?_
    refine j_if_eq 93 dX4_readNewName_83 rfl (by decide) (fun c1 => ?_) (fun c1 => ?_)
    · skip
      refine j_aload_n dX4_readNewName_93 rfl rfl ?_
      refine j_iload_n dX4_readNewName_94 rfl rfl ?_
      refine j_lload_n dX4_readNewName_95 rfl rfl ?_
      refine j_last' (j := (Int32.toNatClampNeg x2)) dX4_readNewName_96 rfl hgnm (o0 c0 c1) rfl ?_
      exact j_vret dX4_readNewName_97 rfl (k0 c0 c1)
    · skip
      refine j_aload_n dX4_readNewName_86 rfl rfl ?_
      refine j_iconst 3 dX4_readNewName_87 rfl (by decide) ?_
      refine j_iload dX4_readNewName_88 rfl rfl ?_
      refine j_cV (as := [.int 3, .int x5]) (rest := []) dX4_readNewName_90 rfl vw_X4_174 (hG 3 (9, 13) rfl) rfl ⟨Nat.le_of_ble_eq_true rfl, Nat.le_of_ble_eq_true rfl⟩ rfl rfl (fun _ _ => Nat.le_of_ble_eq_true rfl) (e1 c0 c1) (fun r μ' hr => ?_)
      obtain ⟨rfl, hr⟩ := hr
      refine j_forget (ls' := [.null, .ref nm, .int x2, .long x3, .null, .null, .null]) ⟨Or.inl rfl, Or.inr rfl, Or.inr rfl, Or.inr rfl, Or.inr rfl, Or.inl rfl, Or.inl rfl, trivial⟩ ?_
      exact k1 c0 c1 μ' hr
  · skip
    refine j_iconst 1 dX4_readNewName_74 rfl (by decide) ?_
    refine j_goto 79 dX4_readNewName_75 (by decide) ?_
    refine j_istore (ls' := [.ref 3, .ref nm, .int x2, .long x3, .null, .int x5, .int 1]) dX4_readNewName_79 rfl (Nat.le_of_ble_eq_true rfl) rfl ?_
    refine j_iload dX4_readNewName_81 rfl rfl ?_
    refine j_if_eq 93 dX4_readNewName_83 rfl (by decide) (fun c2 => ?_) (fun c2 => ?_)
    · skip
      refine j_aload_n dX4_readNewName_93 rfl rfl ?_
      refine j_iload_n dX4_readNewName_94 rfl rfl ?_
      refine j_lload_n dX4_readNewName_95 rfl rfl ?_
      refine j_last' (j := (Int32.toNatClampNeg x2)) dX4_readNewName_96 rfl hgnm (o1 c0 c2) rfl ?_
      exact j_vret dX4_readNewName_97 rfl (k2 c0 c2)
    · skip
      refine j_aload_n dX4_readNewName_86 rfl rfl ?_
      refine j_iconst 3 dX4_readNewName_87 rfl (by decide) ?_
      refine j_iload dX4_readNewName_88 rfl rfl ?_
      refine j_cV (as := [.int 3, .int x5]) (rest := []) dX4_readNewName_90 rfl vw_X4_174 (hG 3 (9, 13) rfl) rfl ⟨Nat.le_of_ble_eq_true rfl, Nat.le_of_ble_eq_true rfl⟩ rfl rfl (fun _ _ => Nat.le_of_ble_eq_true rfl) (e3 c0 c2) (fun r μ' hr => ?_)
      obtain ⟨rfl, hr⟩ := hr
      refine j_forget (ls' := [.null, .ref nm, .int x2, .long x3, .null, .null, .null]) ⟨Or.inl rfl, Or.inr rfl, Or.inr rfl, Or.inr rfl, Or.inr rfl, Or.inl rfl, Or.inl rfl, trivial⟩ ?_
      exact k3 c0 c2 μ' hr
theorem b_X4_readNewName_93 {l : Launch} {G : jG} {μ : jM} {φ : jM → Prop} {x2 : Int32} {x3 : Int64} {nN nm : Nat} (hG : gGG G) (hP : gPP μ) (hgnm : G[nm]? = some (3, nN)) 
    (o0 : vp_in x2 nN) 
    (k0 : φ (wL μ nm (Int32.toNatClampNeg x2) x3)) :
    J l mX4_readNewName (jZ0 3 G (pV φ)) G 0 0 93 [.null, .ref nm, .int x2, .long x3, .null, .null, .null] [] μ := by
  refine j_aload_n dX4_readNewName_93 rfl rfl ?_
  refine j_iload_n dX4_readNewName_94 rfl rfl ?_
  refine j_lload_n dX4_readNewName_95 rfl rfl ?_
  refine j_last' (j := (Int32.toNatClampNeg x2)) dX4_readNewName_96 rfl hgnm o0 rfl ?_
  exact j_vret dX4_readNewName_97 rfl (k0 )
theorem b_X4_readOldPlace_0 {l : Launch} {G : jG} {μ : jM} {φ : Int32 → jM → Prop} {x1 : Int32} {ψ0 : Int32 → jM → Prop} (hG : gGG G) (hP : gPP μ) 
    (o0 : vp_in (μ.1 3 8) 401) 
    (e0 : jC0 l mX4_expect 2 G [.ref 3, .int 2] μ (pI ψ0)) 
    (k0 : ∀ v μ', ψ0 v μ' → J l mX4_readOldPlace (jZ0 3 G (pI φ)) G 0 0 32 [.ref 3, .int x1, .long (μ.2.1 7 (Int32.toNatClampNeg (μ.1 3 8))), .null, .int (μ.1 6 (Int32.toNatClampNeg (μ.1 3 8))), .null] [.int v] μ') :
    J l mX4_readOldPlace (jZ0 3 G (pI φ)) G 0 0 0 [.ref 3, .int x1, .null, .null, .null, .null] [] μ := by
  refine j_aload_n dX4_readOldPlace_0 rfl rfl ?_
  refine j_getR (ci := 4) (N := 13) (f := 1) (T := TX4) 4 dX4_readOldPlace_1 rfl (hG 3 (9, 13) rfl) rfl (by decide) fl_X4_12 rfl (hP 3 1 4 rfl) ?_
  refine j_getR (ci := 7) (N := 4) (f := 2) (T := TX7) 7 dX4_readOldPlace_4 rfl (hG 4 (12, 4) rfl) rfl (by decide) fl_X4_165 rfl (hP 4 2 7 rfl) ?_
  refine j_aload_n dX4_readOldPlace_7 rfl rfl ?_
  refine j_getI (ci := 4) (N := 13) (f := 8) (T := TX4) dX4_readOldPlace_8 rfl (hG 3 (9, 13) rfl) rfl (by decide) fl_X4_42 rfl ?_
  refine j_lald' (j := (Int32.toNatClampNeg (μ.1 3 8))) dX4_readOldPlace_11 rfl (hG 7 (3, 401) rfl) o0 rfl ?_
  refine j_lstore_n (ls' := [.ref 3, .int x1, .long (μ.2.1 7 (Int32.toNatClampNeg (μ.1 3 8))), .null, .null, .null]) dX4_readOldPlace_12 rfl rfl (Nat.le_of_ble_eq_true rfl) rfl ?_
  refine j_aload_n dX4_readOldPlace_13 rfl rfl ?_
  refine j_getR (ci := 4) (N := 13) (f := 1) (T := TX4) 4 dX4_readOldPlace_14 rfl (hG 3 (9, 13) rfl) rfl (by decide) fl_X4_12 rfl (hP 3 1 4 rfl) ?_
  refine j_getR (ci := 7) (N := 4) (f := 1) (T := TX7) 6 dX4_readOldPlace_17 rfl (hG 4 (12, 4) rfl) rfl (by decide) fl_X4_168 rfl (hP 4 1 6 rfl) ?_
  refine j_aload_n dX4_readOldPlace_20 rfl rfl ?_
  refine j_getI (ci := 4) (N := 13) (f := 8) (T := TX4) dX4_readOldPlace_21 rfl (hG 3 (9, 13) rfl) rfl (by decide) fl_X4_42 rfl ?_
  refine j_iald' (j := (Int32.toNatClampNeg (μ.1 3 8))) dX4_readOldPlace_24 rfl (hG 6 (0, 401) rfl) o0 rfl ?_
  refine j_istore (ls' := [.ref 3, .int x1, .long (μ.2.1 7 (Int32.toNatClampNeg (μ.1 3 8))), .null, .int (μ.1 6 (Int32.toNatClampNeg (μ.1 3 8))), .null]) dX4_readOldPlace_25 rfl (Nat.le_of_ble_eq_true rfl) rfl ?_
  refine j_aload_n dX4_readOldPlace_27 rfl rfl ?_
  refine j_iconst 2 dX4_readOldPlace_28 rfl (by decide) ?_
  refine j_cV (as := [.int 2]) (rest := []) dX4_readOldPlace_29 rfl vw_X4_114 (hG 3 (9, 13) rfl) rfl ⟨Nat.le_of_ble_eq_true rfl, Nat.le_of_ble_eq_true rfl⟩ rfl rfl (fun _ _ => Nat.le_of_ble_eq_true rfl) (e0 ) (fun r μ' hr => ?_)
  obtain ⟨v, rfl, hr⟩ := hr
  exact k0  v μ' hr
theorem b_X4_readOldPlace_32 {l : Launch} {G : jG} {μ : jM} {φ : Int32 → jM → Prop} {x1 x4 z0 : Int32} {x2 : Int64} {ψ0 : Int32 → jM → Prop} {dr : Nat} (hG : gGG G) (hP : gPP μ) (hdr : tO gTold pTold G μ dr) (q3_7 : μ.2.2 3 7 = some dr) 
    (e0 : (¬ z0 = (0 : Int32)) → jC0 l mX4_numberOf 0 G [.long x2, .ref 9, .int (μ.1 dr 0)] μ (pI ψ0)) 
    (k0 : (¬ z0 = (0 : Int32)) → ∀ v μ', ψ0 v μ' → J l mX4_readOldPlace (jZ0 3 G (pI φ)) G 0 0 52 [.ref 3, .int x1, .null, .null, .int x4, .null] [.int v] μ') 
    (k1 : (z0 = (0 : Int32)) → φ (-1) μ) :
    J l mX4_readOldPlace (jZ0 3 G (pI φ)) G 0 0 32 [.ref 3, .int x1, .long x2, .null, .int x4, .null] [.int z0] μ := by
  refine j_if_ne 37 dX4_readOldPlace_32 rfl (by decide) (fun c0 => ?_) (fun c0 => ?_)
  · skip
    refine j_lload_n dX4_readOldPlace_37 rfl rfl ?_
    refine j_aload_n dX4_readOldPlace_38 rfl rfl ?_
    refine j_getR (ci := 4) (N := 13) (f := 2) (T := TX4) 9 dX4_readOldPlace_39 rfl (hG 3 (9, 13) rfl) rfl (by decide) fl_X4_18 rfl (hP 3 2 9 rfl) ?_
    refine j_aload_n dX4_readOldPlace_42 rfl rfl ?_
    refine j_getR (ci := 4) (N := 13) (f := 7) (T := TX4) dr dX4_readOldPlace_43 rfl (hG 3 (9, 13) rfl) rfl (by decide) fl_X4_29 rfl q3_7 ?_
    refine j_getI (ci := 8) (N := 20) (f := 0) (T := TX8) dX4_readOldPlace_46 rfl (hdr.1 0 (13, 20) rfl) rfl (by decide) fl_X4_118 rfl ?_
    refine j_cS (as := [.long x2, .ref 9, .int (μ.1 dr 0)]) (rest := []) dX4_readOldPlace_49 rfl vw_X4_170 ⟨Nat.le_of_ble_eq_true rfl, Nat.le_of_ble_eq_true rfl⟩ rfl rfl (fun _ _ => Nat.le_of_ble_eq_true rfl) (e0 c0) (fun r μ' hr => ?_)
    obtain ⟨v, rfl, hr⟩ := hr
    refine j_forget (ls' := [.ref 3, .int x1, .null, .null, .int x4, .null]) ⟨Or.inr rfl, Or.inr rfl, Or.inl rfl, Or.inr rfl, Or.inr rfl, Or.inr rfl, trivial⟩ ?_
    exact k0 c0 v μ' hr
  · skip
    refine j_iconst (-1) dX4_readOldPlace_35 rfl (by decide) ?_
    exact j_iret dX4_readOldPlace_36 rfl (k1 c0)
theorem b_X4_readOldPlace_52 {l : Launch} {G : jG} {μ : jM} {φ : Int32 → jM → Prop} {x1 x4 z0 : Int32} {ψ1 : jM → Prop} {ψ2 : jM → Prop} (hG : gGG G) (hP : gPP μ) 
    (k0 : (¬ z0 = ((-1) : Int32)) → (¬ z0 = (x1 : Int32)) → φ z0 μ) 
    (e1 : (¬ z0 = ((-1) : Int32)) → (z0 = (x1 : Int32)) → jC0 l mX4_failSense 0 G [.ref 3, .int 3, .int x4] μ (pV ψ1)) 
    (k1 : (¬ z0 = ((-1) : Int32)) → (z0 = (x1 : Int32)) → ∀ μ', ψ1 μ' → J l mX4_readOldPlace (jZ0 3 G (pI φ)) G 0 0 83 [.null, .null, .null, .null, .null, .int z0] [] μ') 
    (e2 : (z0 = ((-1) : Int32)) → jC0 l mX4_failSense 0 G [.ref 3, .int 4, .int x4] μ (pV ψ2)) 
    (k2 : (z0 = ((-1) : Int32)) → ∀ μ', ψ2 μ' → J l mX4_readOldPlace (jZ0 3 G (pI φ)) G 0 0 67 [.null, .null, .null, .null, .null, .int z0] [] μ') :
    J l mX4_readOldPlace (jZ0 3 G (pI φ)) G 0 0 52 [.ref 3, .int x1, .null, .null, .int x4, .null] [.int z0] μ := by
  refine j_istore (ls' := [.ref 3, .int x1, .null, .null, .int x4, .int z0]) dX4_readOldPlace_52 rfl (Nat.le_of_ble_eq_true rfl) rfl ?_
  refine j_iload dX4_readOldPlace_54 rfl rfl ?_
  refine j_iconst (-1) dX4_readOldPlace_56 rfl (by decide) ?_
  refine j_icmp_ne 70 dX4_readOldPlace_57 rfl (by decide) (fun c0 => ?_) (fun c0 => ?_)
  · skip
    refine j_iload dX4_readOldPlace_70 rfl rfl ?_
    refine j_iload_n dX4_readOldPlace_72 rfl rfl ?_
    refine j_icmp_ne 83 dX4_readOldPlace_73 rfl (by decide) (fun c1 => ?_) (fun c1 => ?_)
    · skip
      refine j_iload dX4_readOldPlace_83 rfl rfl ?_
      exact j_iret dX4_readOldPlace_85 rfl (k0 c0 c1)
    · skip
      refine j_aload_n dX4_readOldPlace_76 rfl rfl ?_
      refine j_iconst 3 dX4_readOldPlace_77 rfl (by decide) ?_
      refine j_iload dX4_readOldPlace_78 rfl rfl ?_
      refine j_cV (as := [.int 3, .int x4]) (rest := []) dX4_readOldPlace_80 rfl vw_X4_174 (hG 3 (9, 13) rfl) rfl ⟨Nat.le_of_ble_eq_true rfl, Nat.le_of_ble_eq_true rfl⟩ rfl rfl (fun _ _ => Nat.le_of_ble_eq_true rfl) (e1 c0 c1) (fun r μ' hr => ?_)
      obtain ⟨rfl, hr⟩ := hr
      refine j_forget (ls' := [.null, .null, .null, .null, .null, .int z0]) ⟨Or.inl rfl, Or.inl rfl, Or.inr rfl, Or.inr rfl, Or.inl rfl, Or.inr rfl, trivial⟩ ?_
      exact k1 c0 c1 μ' hr
  · skip
    refine j_aload_n dX4_readOldPlace_60 rfl rfl ?_
    refine j_iconst 4 dX4_readOldPlace_61 rfl (by decide) ?_
    refine j_iload dX4_readOldPlace_62 rfl rfl ?_
    refine j_cV (as := [.int 4, .int x4]) (rest := []) dX4_readOldPlace_64 rfl vw_X4_174 (hG 3 (9, 13) rfl) rfl ⟨Nat.le_of_ble_eq_true rfl, Nat.le_of_ble_eq_true rfl⟩ rfl rfl (fun _ _ => Nat.le_of_ble_eq_true rfl) (e2 c0) (fun r μ' hr => ?_)
    obtain ⟨rfl, hr⟩ := hr
    refine j_forget (ls' := [.null, .null, .null, .null, .null, .int z0]) ⟨Or.inl rfl, Or.inl rfl, Or.inr rfl, Or.inr rfl, Or.inl rfl, Or.inr rfl, trivial⟩ ?_
    exact k2 c0 μ' hr
theorem b_X4_readOldPlace_67 {l : Launch} {G : jG} {μ : jM} {φ : Int32 → jM → Prop} {x5 : Int32} (hG : gGG G) (hP : gPP μ) 
    (k0 : φ x5 μ) :
    J l mX4_readOldPlace (jZ0 3 G (pI φ)) G 0 0 67 [.null, .null, .null, .null, .null, .int x5] [] μ := by
  refine j_goto 83 dX4_readOldPlace_67 (by decide) ?_
  refine j_iload dX4_readOldPlace_83 rfl rfl ?_
  exact j_iret dX4_readOldPlace_85 rfl (k0 )
theorem b_X4_readOldPlace_83 {l : Launch} {G : jG} {μ : jM} {φ : Int32 → jM → Prop} {x5 : Int32} (hG : gGG G) (hP : gPP μ) 
    (k0 : φ x5 μ) :
    J l mX4_readOldPlace (jZ0 3 G (pI φ)) G 0 0 83 [.null, .null, .null, .null, .null, .int x5] [] μ := by
  refine j_iload dX4_readOldPlace_83 rfl rfl ?_
  exact j_iret dX4_readOldPlace_85 rfl (k0 )
theorem b_X4_readNumber_0 {l : Launch} {G : jG} {μ : jM} {φ : Int32 → jM → Prop} {x1 x2 : Int32} {ψ0 : Int32 → jM → Prop} (hG : gGG G) (hP : gPP μ) 
    (o0 : vp_in (μ.1 3 8) 401) 
    (e0 : jC0 l mX4_expect 2 G [.ref 3, .int 3] μ (pI ψ0)) 
    (k0 : ∀ v μ', ψ0 v μ' → J l mX4_readNumber (jZ0 3 G (pI φ)) G 0 0 33 [.ref 3, .int x1, .int x2, .int (Int64.toInt32 (μ.2.1 7 (Int32.toNatClampNeg (μ.1 3 8)))), .int (μ.1 6 (Int32.toNatClampNeg (μ.1 3 8)))] [.int v] μ') :
    J l mX4_readNumber (jZ0 3 G (pI φ)) G 0 0 0 [.ref 3, .int x1, .int x2, .null, .null] [] μ := by
  refine j_aload_n dX4_readNumber_0 rfl rfl ?_
  refine j_getR (ci := 4) (N := 13) (f := 1) (T := TX4) 4 dX4_readNumber_1 rfl (hG 3 (9, 13) rfl) rfl (by decide) fl_X4_12 rfl (hP 3 1 4 rfl) ?_
  refine j_getR (ci := 7) (N := 4) (f := 2) (T := TX7) 7 dX4_readNumber_4 rfl (hG 4 (12, 4) rfl) rfl (by decide) fl_X4_165 rfl (hP 4 2 7 rfl) ?_
  refine j_aload_n dX4_readNumber_7 rfl rfl ?_
  refine j_getI (ci := 4) (N := 13) (f := 8) (T := TX4) dX4_readNumber_8 rfl (hG 3 (9, 13) rfl) rfl (by decide) fl_X4_42 rfl ?_
  refine j_lald' (j := (Int32.toNatClampNeg (μ.1 3 8))) dX4_readNumber_11 rfl (hG 7 (3, 401) rfl) o0 rfl ?_
  refine j_l2i dX4_readNumber_12 rfl ?_
  refine j_istore_n (ls' := [.ref 3, .int x1, .int x2, .int (Int64.toInt32 (μ.2.1 7 (Int32.toNatClampNeg (μ.1 3 8)))), .null]) dX4_readNumber_13 rfl rfl (Nat.le_of_ble_eq_true rfl) rfl ?_
  refine j_aload_n dX4_readNumber_14 rfl rfl ?_
  refine j_getR (ci := 4) (N := 13) (f := 1) (T := TX4) 4 dX4_readNumber_15 rfl (hG 3 (9, 13) rfl) rfl (by decide) fl_X4_12 rfl (hP 3 1 4 rfl) ?_
  refine j_getR (ci := 7) (N := 4) (f := 1) (T := TX7) 6 dX4_readNumber_18 rfl (hG 4 (12, 4) rfl) rfl (by decide) fl_X4_168 rfl (hP 4 1 6 rfl) ?_
  refine j_aload_n dX4_readNumber_21 rfl rfl ?_
  refine j_getI (ci := 4) (N := 13) (f := 8) (T := TX4) dX4_readNumber_22 rfl (hG 3 (9, 13) rfl) rfl (by decide) fl_X4_42 rfl ?_
  refine j_iald' (j := (Int32.toNatClampNeg (μ.1 3 8))) dX4_readNumber_25 rfl (hG 6 (0, 401) rfl) o0 rfl ?_
  refine j_istore (ls' := [.ref 3, .int x1, .int x2, .int (Int64.toInt32 (μ.2.1 7 (Int32.toNatClampNeg (μ.1 3 8)))), .int (μ.1 6 (Int32.toNatClampNeg (μ.1 3 8)))]) dX4_readNumber_26 rfl (Nat.le_of_ble_eq_true rfl) rfl ?_
  refine j_aload_n dX4_readNumber_28 rfl rfl ?_
  refine j_iconst 3 dX4_readNumber_29 rfl (by decide) ?_
  refine j_cV (as := [.int 3]) (rest := []) dX4_readNumber_30 rfl vw_X4_114 (hG 3 (9, 13) rfl) rfl ⟨Nat.le_of_ble_eq_true rfl, Nat.le_of_ble_eq_true rfl⟩ rfl rfl (fun _ _ => Nat.le_of_ble_eq_true rfl) (e0 ) (fun r μ' hr => ?_)
  obtain ⟨v, rfl, hr⟩ := hr
  exact k0  v μ' hr
theorem b_X4_readNumber_33 {l : Launch} {G : jG} {μ : jM} {φ : Int32 → jM → Prop} {x1 x2 x3 x4 z0 : Int32} {ψ1 : jM → Prop} {ψ3 : jM → Prop} (hG : gGG G) (hP : gPP μ) 
    (k0 : (z0 = (0 : Int32)) → φ x3 μ) 
    (e1 : (¬ (z0 = (0 : Int32))) → (x3 < (x1 : Int32)) → jC0 l mX4_failSense 0 G [.ref 3, .int 5, .int x4] μ (pV ψ1)) 
    (k1 : (¬ (z0 = (0 : Int32))) → (x3 < (x1 : Int32)) → ∀ μ', ψ1 μ' → J l mX4_readNumber (jZ0 3 G (pI φ)) G 0 0 53 [.null, .null, .null, .int x3, .null] [] μ') 
    (k2 : (¬ (z0 = (0 : Int32))) → (¬ (x3 < (x1 : Int32))) → (x3 ≤ (x2 : Int32)) → φ x3 μ) 
    (e3 : (¬ (z0 = (0 : Int32))) → (¬ (x3 < (x1 : Int32))) → (¬ (x3 ≤ (x2 : Int32))) → jC0 l mX4_failSense 0 G [.ref 3, .int 5, .int x4] μ (pV ψ3)) 
    (k3 : (¬ (z0 = (0 : Int32))) → (¬ (x3 < (x1 : Int32))) → (¬ (x3 ≤ (x2 : Int32))) → ∀ μ', ψ3 μ' → J l mX4_readNumber (jZ0 3 G (pI φ)) G 0 0 53 [.null, .null, .null, .int x3, .null] [] μ') :
    J l mX4_readNumber (jZ0 3 G (pI φ)) G 0 0 33 [.ref 3, .int x1, .int x2, .int x3, .int x4] [.int z0] μ := by
  refine j_if_eq 53 dX4_readNumber_33 rfl (by decide) (fun c0 => ?_) (fun c0 => ?_)
  · skip
    refine j_iload_n dX4_readNumber_53 rfl rfl ?_
    exact j_iret dX4_readNumber_54 rfl (k0 c0)
  · skip
    refine j_iload_n dX4_readNumber_36 rfl rfl ?_
    refine j_iload_n dX4_readNumber_37 rfl rfl ?_
    refine j_icmp_lt 46 dX4_readNumber_38 rfl (by decide) (fun c1 => ?_) (fun c1 => ?_)
    · skip
      refine j_aload_n dX4_readNumber_46 rfl rfl ?_
      refine j_iconst 5 dX4_readNumber_47 rfl (by decide) ?_
      refine j_iload dX4_readNumber_48 rfl rfl ?_
      refine j_cV (as := [.int 5, .int x4]) (rest := []) dX4_readNumber_50 rfl vw_X4_174 (hG 3 (9, 13) rfl) rfl ⟨Nat.le_of_ble_eq_true rfl, Nat.le_of_ble_eq_true rfl⟩ rfl rfl (fun _ _ => Nat.le_of_ble_eq_true rfl) (e1 c0 c1) (fun r μ' hr => ?_)
      obtain ⟨rfl, hr⟩ := hr
      refine j_forget (ls' := [.null, .null, .null, .int x3, .null]) ⟨Or.inl rfl, Or.inl rfl, Or.inl rfl, Or.inr rfl, Or.inl rfl, trivial⟩ ?_
      exact k1 c0 c1 μ' hr
    · skip
      refine j_iload_n dX4_readNumber_41 rfl rfl ?_
      refine j_iload_n dX4_readNumber_42 rfl rfl ?_
      refine j_icmp_le 53 dX4_readNumber_43 rfl (by decide) (fun c2 => ?_) (fun c2 => ?_)
      · skip
        refine j_iload_n dX4_readNumber_53 rfl rfl ?_
        exact j_iret dX4_readNumber_54 rfl (k2 c0 c1 c2)
      · skip
        refine j_aload_n dX4_readNumber_46 rfl rfl ?_
        refine j_iconst 5 dX4_readNumber_47 rfl (by decide) ?_
        refine j_iload dX4_readNumber_48 rfl rfl ?_
        refine j_cV (as := [.int 5, .int x4]) (rest := []) dX4_readNumber_50 rfl vw_X4_174 (hG 3 (9, 13) rfl) rfl ⟨Nat.le_of_ble_eq_true rfl, Nat.le_of_ble_eq_true rfl⟩ rfl rfl (fun _ _ => Nat.le_of_ble_eq_true rfl) (e3 c0 c1 c2) (fun r μ' hr => ?_)
        obtain ⟨rfl, hr⟩ := hr
        refine j_forget (ls' := [.null, .null, .null, .int x3, .null]) ⟨Or.inl rfl, Or.inl rfl, Or.inl rfl, Or.inr rfl, Or.inl rfl, trivial⟩ ?_
        exact k3 c0 c1 c2 μ' hr
theorem b_X4_readNumber_53 {l : Launch} {G : jG} {μ : jM} {φ : Int32 → jM → Prop} {x3 : Int32} (hG : gGG G) (hP : gPP μ) 
    (k0 : φ x3 μ) :
    J l mX4_readNumber (jZ0 3 G (pI φ)) G 0 0 53 [.null, .null, .null, .int x3, .null] [] μ := by
  refine j_iload_n dX4_readNumber_53 rfl rfl ?_
  exact j_iret dX4_readNumber_54 rfl (k0 )
theorem b_X4_readLaw_0 {l : Launch} {G : jG} {μ : jM} {φ : jM → Prop} {ψ0 : jM → Prop} {w : Nat} (hG : gGG G) (hP : gPP μ) (hw : tO gLaw pLaw G μ w) 
    (e0 : jC0 l mX4_take 1 G [.ref 3] μ (pV ψ0)) 
    (k0 : ∀ μ', ψ0 μ' → J l mX4_readLaw (jZ0 4 G (pV φ)) G 0 0 4 [.ref 3, .ref w, .null, .null] [] μ') :
    J l mX4_readLaw (jZ0 4 G (pV φ)) G 0 0 0 [.ref 3, .ref w, .null, .null] [] μ := by
  refine j_aload_n dX4_readLaw_0 rfl rfl ?_
  refine j_cV (as := []) (rest := []) dX4_readLaw_1 rfl vw_X4_91 (hG 3 (9, 13) rfl) rfl ⟨Nat.le_of_ble_eq_true rfl, Nat.le_of_ble_eq_true rfl⟩ rfl rfl (fun _ _ => Nat.le_of_ble_eq_true rfl) (e0 ) (fun r μ' hr => ?_)
  obtain ⟨rfl, hr⟩ := hr
  exact k0  μ' hr
theorem b_X4_readLaw_4 {l : Launch} {G : jG} {μ : jM} {φ : jM → Prop} {ψ0 : jM → Prop} {w : Nat} (hG : gGG G) (hP : gPP μ) (hw : tO gLaw pLaw G μ w) 
    (e0 : jC0 l mX2_clear 1 G [.ref w] μ (pV ψ0)) 
    (k0 : ∀ μ', ψ0 μ' → J l mX4_readLaw (jZ0 4 G (pV φ)) G 0 0 8 [.ref 3, .ref w, .null, .null] [] μ') :
    J l mX4_readLaw (jZ0 4 G (pV φ)) G 0 0 4 [.ref 3, .ref w, .null, .null] [] μ := by
  refine j_aload_n dX4_readLaw_4 rfl rfl ?_
  refine j_cV (as := []) (rest := []) dX4_readLaw_5 rfl vw_X4_178 (hw.1 0 (7, 6) rfl) rfl ⟨Nat.le_of_ble_eq_true rfl, Nat.le_of_ble_eq_true rfl⟩ rfl rfl (fun _ _ => Nat.le_of_ble_eq_true rfl) (e0 ) (fun r μ' hr => ?_)
  obtain ⟨rfl, hr⟩ := hr
  exact k0  μ' hr
theorem b_X4_readLaw_8 {l : Launch} {G : jG} {μ : jM} {φ : jM → Prop} {ψ0 : Int32 → jM → Prop} {w : Nat} (hG : gGG G) (hP : gPP μ) (hw : tO gLaw pLaw G μ w) 
    (e0 : jC0 l mX4_expect 2 G [.ref 3, .int 61] μ (pI ψ0)) 
    (k0 : ∀ v μ', ψ0 v μ' → J l mX4_readLaw (jZ0 4 G (pV φ)) G 0 0 14 [.ref 3, .ref w, .null, .null] [.int v] μ') :
    J l mX4_readLaw (jZ0 4 G (pV φ)) G 0 0 8 [.ref 3, .ref w, .null, .null] [] μ := by
  refine j_aload_n dX4_readLaw_8 rfl rfl ?_
  refine j_bipush 61 dX4_readLaw_9 rfl (by decide) ?_
  refine j_cV (as := [.int 61]) (rest := []) dX4_readLaw_11 rfl vw_X4_114 (hG 3 (9, 13) rfl) rfl ⟨Nat.le_of_ble_eq_true rfl, Nat.le_of_ble_eq_true rfl⟩ rfl rfl (fun _ _ => Nat.le_of_ble_eq_true rfl) (e0 ) (fun r μ' hr => ?_)
  obtain ⟨v, rfl, hr⟩ := hr
  exact k0  v μ' hr
theorem b_X4_readLaw_14 {l : Launch} {G : jG} {μ : jM} {φ : jM → Prop} {z0 : Int32} {w : Nat} (hG : gGG G) (hP : gPP μ) (hw : tO gLaw pLaw G μ w) 
    (k0 : J l mX4_readLaw (jZ0 4 G (pV φ)) G 0 0 17 [.ref 3, .ref w, .int 0, .null] [] μ) :
    J l mX4_readLaw (jZ0 4 G (pV φ)) G 0 0 14 [.ref 3, .ref w, .null, .null] [.int z0] μ := by
  refine j_pop dX4_readLaw_14 rfl (fun _ _ => rfl) ?_
  refine j_iconst 0 dX4_readLaw_15 rfl (by decide) ?_
  refine j_istore_n (ls' := [.ref 3, .ref w, .int 0, .null]) dX4_readLaw_16 rfl rfl (Nat.le_of_ble_eq_true rfl) rfl ?_
  exact k0 
theorem b_X4_readLaw_17 {l : Launch} {G : jG} {μ : jM} {φ : jM → Prop} {x2 : Int32} {ψ0 : Int32 → jM → Prop} {ψ1 : Int32 → jM → Prop} {w : Nat} (hG : gGG G) (hP : gPP μ) (hw : tO gLaw pLaw G μ w) 
    (e0 : (4 ≤ (x2 : Int32)) → jC0 l mX4_kindHere 0 G [.ref 3] μ (pI ψ0)) 
    (k0 : (4 ≤ (x2 : Int32)) → ∀ v μ', ψ0 v μ' → J l mX4_readLaw (jZ0 4 G (pV φ)) G 0 0 105 [.ref 3, .ref w, .null, .null] [.int v] μ') 
    (e1 : (¬ (4 ≤ (x2 : Int32))) → jC0 l mX4_kindHere 0 G [.ref 3] μ (pI ψ1)) 
    (k1 : (¬ (4 ≤ (x2 : Int32))) → ∀ v μ', ψ1 v μ' → J l mX4_readLaw (jZ0 4 G (pV φ)) G 0 0 26 [.ref 3, .ref w, .int x2, .null] [.int v] μ') :
    J l mX4_readLaw (jZ0 4 G (pV φ)) G 0 0 17 [.ref 3, .ref w, .int x2, .null] [] μ := by
  refine j_iload_n dX4_readLaw_17 rfl rfl ?_
  refine j_iconst 4 dX4_readLaw_18 rfl (by decide) ?_
  refine j_icmp_ge 101 dX4_readLaw_19 rfl (by decide) (fun c0 => ?_) (fun c0 => ?_)
  · skip
    refine j_aload_n dX4_readLaw_101 rfl rfl ?_
    refine j_cV (as := []) (rest := []) dX4_readLaw_102 rfl vw_X4_52 (hG 3 (9, 13) rfl) rfl ⟨Nat.le_of_ble_eq_true rfl, Nat.le_of_ble_eq_true rfl⟩ rfl rfl (fun _ _ => Nat.le_of_ble_eq_true rfl) (e0 c0) (fun r μ' hr => ?_)
    obtain ⟨v, rfl, hr⟩ := hr
    refine j_forget (ls' := [.ref 3, .ref w, .null, .null]) ⟨Or.inr rfl, Or.inr rfl, Or.inl rfl, Or.inr rfl, trivial⟩ ?_
    exact k0 c0 v μ' hr
  · skip
    refine j_aload_n dX4_readLaw_22 rfl rfl ?_
    refine j_cV (as := []) (rest := []) dX4_readLaw_23 rfl vw_X4_52 (hG 3 (9, 13) rfl) rfl ⟨Nat.le_of_ble_eq_true rfl, Nat.le_of_ble_eq_true rfl⟩ rfl rfl (fun _ _ => Nat.le_of_ble_eq_true rfl) (e1 c0) (fun r μ' hr => ?_)
    obtain ⟨v, rfl, hr⟩ := hr
    exact k1 c0 v μ' hr
theorem b_X4_readLaw_26 {l : Launch} {G : jG} {μ : jM} {φ : jM → Prop} {x2 z0 : Int32} {ψ0 : Int32 → jM → Prop} {ψ1 : jM → Prop} {w : Nat} (hG : gGG G) (hP : gPP μ) (hw : tO gLaw pLaw G μ w) 
    (e0 : (¬ z0 = (139 : Int32)) → jC0 l mX4_kindHere 0 G [.ref 3] μ (pI ψ0)) 
    (k0 : (¬ z0 = (139 : Int32)) → ∀ v μ', ψ0 v μ' → J l mX4_readLaw (jZ0 4 G (pV φ)) G 0 0 105 [.ref 3, .ref w, .null, .null] [.int v] μ') 
    (e1 : (z0 = (139 : Int32)) → jC0 l mX4_take 1 G [.ref 3] μ (pV ψ1)) 
    (k1 : (z0 = (139 : Int32)) → ∀ μ', ψ1 μ' → J l mX4_readLaw (jZ0 4 G (pV φ)) G 0 0 36 [.ref 3, .ref w, .int x2, .null] [] μ') :
    J l mX4_readLaw (jZ0 4 G (pV φ)) G 0 0 26 [.ref 3, .ref w, .int x2, .null] [.int z0] μ := by
  refine j_sipush 139 dX4_readLaw_26 rfl (by decide) ?_
  refine j_icmp_ne 101 dX4_readLaw_29 rfl (by decide) (fun c0 => ?_) (fun c0 => ?_)
  · skip
    refine j_aload_n dX4_readLaw_101 rfl rfl ?_
    refine j_cV (as := []) (rest := []) dX4_readLaw_102 rfl vw_X4_52 (hG 3 (9, 13) rfl) rfl ⟨Nat.le_of_ble_eq_true rfl, Nat.le_of_ble_eq_true rfl⟩ rfl rfl (fun _ _ => Nat.le_of_ble_eq_true rfl) (e0 c0) (fun r μ' hr => ?_)
    obtain ⟨v, rfl, hr⟩ := hr
    refine j_forget (ls' := [.ref 3, .ref w, .null, .null]) ⟨Or.inr rfl, Or.inr rfl, Or.inl rfl, Or.inr rfl, trivial⟩ ?_
    exact k0 c0 v μ' hr
  · skip
    refine j_aload_n dX4_readLaw_32 rfl rfl ?_
    refine j_cV (as := []) (rest := []) dX4_readLaw_33 rfl vw_X4_91 (hG 3 (9, 13) rfl) rfl ⟨Nat.le_of_ble_eq_true rfl, Nat.le_of_ble_eq_true rfl⟩ rfl rfl (fun _ _ => Nat.le_of_ble_eq_true rfl) (e1 c0) (fun r μ' hr => ?_)
    obtain ⟨rfl, hr⟩ := hr
    exact k1 c0 μ' hr
theorem b_X4_readLaw_36 {l : Launch} {G : jG} {μ : jM} {φ : jM → Prop} {x2 : Int32} {ψ0 : jM → Prop} {w : Nat} (hG : gGG G) (hP : gPP μ) (hw : tO gLaw pLaw G μ w) 
    (e0 : jC0 l mX4_readSum 3 G [.ref 3, .ref w] μ (pV ψ0)) 
    (k0 : ∀ μ', ψ0 μ' → J l mX4_readLaw (jZ0 4 G (pV φ)) G 0 0 41 [.ref 3, .ref w, .int x2, .null] [] μ') :
    J l mX4_readLaw (jZ0 4 G (pV φ)) G 0 0 36 [.ref 3, .ref w, .int x2, .null] [] μ := by
  refine j_aload_n dX4_readLaw_36 rfl rfl ?_
  refine j_aload_n dX4_readLaw_37 rfl rfl ?_
  refine j_cV (as := [.ref w]) (rest := []) dX4_readLaw_38 rfl vw_X4_181 (hG 3 (9, 13) rfl) rfl ⟨Nat.le_of_ble_eq_true rfl, Nat.le_of_ble_eq_true rfl⟩ rfl rfl (fun _ _ => Nat.le_of_ble_eq_true rfl) (e0 ) (fun r μ' hr => ?_)
  obtain ⟨rfl, hr⟩ := hr
  exact k0  μ' hr
theorem b_X4_readLaw_41 {l : Launch} {G : jG} {μ : jM} {φ : jM → Prop} {x2 : Int32} {ψ0 : Int32 → jM → Prop} {w : Nat} (hG : gGG G) (hP : gPP μ) (hw : tO gLaw pLaw G μ w) 
    (e0 : jC0 l mX4_expect 2 G [.ref 3, .int 60] μ (pI ψ0)) 
    (k0 : ∀ v μ', ψ0 v μ' → J l mX4_readLaw (jZ0 4 G (pV φ)) G 0 0 47 [.ref 3, .ref w, .int x2, .null] [.int v] μ') :
    J l mX4_readLaw (jZ0 4 G (pV φ)) G 0 0 41 [.ref 3, .ref w, .int x2, .null] [] μ := by
  refine j_aload_n dX4_readLaw_41 rfl rfl ?_
  refine j_bipush 60 dX4_readLaw_42 rfl (by decide) ?_
  refine j_cV (as := [.int 60]) (rest := []) dX4_readLaw_44 rfl vw_X4_114 (hG 3 (9, 13) rfl) rfl ⟨Nat.le_of_ble_eq_true rfl, Nat.le_of_ble_eq_true rfl⟩ rfl rfl (fun _ _ => Nat.le_of_ble_eq_true rfl) (e0 ) (fun r μ' hr => ?_)
  obtain ⟨v, rfl, hr⟩ := hr
  exact k0  v μ' hr
theorem b_X4_readLaw_47 {l : Launch} {G : jG} {μ : jM} {φ : jM → Prop} {x2 z0 : Int32} {ψ0 : jM → Prop} {w : Nat} (hG : gGG G) (hP : gPP μ) (hw : tO gLaw pLaw G μ w) 
    (e0 : jC0 l mX4_readSum 3 G [.ref 3, .ref w] μ (pV ψ0)) 
    (k0 : ∀ μ', ψ0 μ' → J l mX4_readLaw (jZ0 4 G (pV φ)) G 0 0 53 [.ref 3, .ref w, .int x2, .null] [] μ') :
    J l mX4_readLaw (jZ0 4 G (pV φ)) G 0 0 47 [.ref 3, .ref w, .int x2, .null] [.int z0] μ := by
  refine j_pop dX4_readLaw_47 rfl (fun _ _ => rfl) ?_
  refine j_aload_n dX4_readLaw_48 rfl rfl ?_
  refine j_aload_n dX4_readLaw_49 rfl rfl ?_
  refine j_cV (as := [.ref w]) (rest := []) dX4_readLaw_50 rfl vw_X4_181 (hG 3 (9, 13) rfl) rfl ⟨Nat.le_of_ble_eq_true rfl, Nat.le_of_ble_eq_true rfl⟩ rfl rfl (fun _ _ => Nat.le_of_ble_eq_true rfl) (e0 ) (fun r μ' hr => ?_)
  obtain ⟨rfl, hr⟩ := hr
  exact k0  μ' hr
theorem b_X4_readLaw_53 {l : Launch} {G : jG} {μ : jM} {φ : jM → Prop} {x2 : Int32} {ψ0 : Int32 → jM → Prop} {w : Nat} (hG : gGG G) (hP : gPP μ) (hw : tO gLaw pLaw G μ w) 
    (e0 : jC0 l mX4_expect 2 G [.ref 3, .int 140] μ (pI ψ0)) 
    (k0 : ∀ v μ', ψ0 v μ' → J l mX4_readLaw (jZ0 4 G (pV φ)) G 0 0 60 [.ref 3, .ref w, .int x2, .null] [.int v] μ') :
    J l mX4_readLaw (jZ0 4 G (pV φ)) G 0 0 53 [.ref 3, .ref w, .int x2, .null] [] μ := by
  refine j_aload_n dX4_readLaw_53 rfl rfl ?_
  refine j_sipush 140 dX4_readLaw_54 rfl (by decide) ?_
  refine j_cV (as := [.int 140]) (rest := []) dX4_readLaw_57 rfl vw_X4_114 (hG 3 (9, 13) rfl) rfl ⟨Nat.le_of_ble_eq_true rfl, Nat.le_of_ble_eq_true rfl⟩ rfl rfl (fun _ _ => Nat.le_of_ble_eq_true rfl) (e0 ) (fun r μ' hr => ?_)
  obtain ⟨v, rfl, hr⟩ := hr
  exact k0  v μ' hr
theorem b_X4_readLaw_60 {l : Launch} {G : jG} {μ : jM} {φ : jM → Prop} {x2 z0 : Int32} {ψ0 : Int32 → jM → Prop} {w : Nat} (hG : gGG G) (hP : gPP μ) (hw : tO gLaw pLaw G μ w) 
    (e0 : jC0 l mX2_add 0 G [.ref w, .int 6, .int 0] μ (pI ψ0)) 
    (k0 : ∀ v μ', ψ0 v μ' → J l mX4_readLaw (jZ0 4 G (pV φ)) G 0 0 68 [.ref 3, .ref w, .int x2, .null] [.int v] μ') :
    J l mX4_readLaw (jZ0 4 G (pV φ)) G 0 0 60 [.ref 3, .ref w, .int x2, .null] [.int z0] μ := by
  refine j_pop dX4_readLaw_60 rfl (fun _ _ => rfl) ?_
  refine j_aload_n dX4_readLaw_61 rfl rfl ?_
  refine j_bipush 6 dX4_readLaw_62 rfl (by decide) ?_
  refine j_iconst 0 dX4_readLaw_64 rfl (by decide) ?_
  refine j_cV (as := [.int 6, .int 0]) (rest := []) dX4_readLaw_65 rfl vw_X4_184 (hw.1 0 (7, 6) rfl) rfl ⟨Nat.le_of_ble_eq_true rfl, Nat.le_of_ble_eq_true rfl⟩ rfl rfl (fun _ _ => Nat.le_of_ble_eq_true rfl) (e0 ) (fun r μ' hr => ?_)
  obtain ⟨v, rfl, hr⟩ := hr
  exact k0  v μ' hr
theorem b_X4_readLaw_68 {l : Launch} {G : jG} {μ : jM} {φ : jM → Prop} {x2 z0 : Int32} {ψ0 : jM → Prop} {w : Nat} (hG : gGG G) (hP : gPP μ) (hw : tO gLaw pLaw G μ w) 
    (e0 : jC0 l mX4_readSum 3 G [.ref 3, .ref w] μ (pV ψ0)) 
    (k0 : ∀ μ', ψ0 μ' → J l mX4_readLaw (jZ0 4 G (pV φ)) G 0 0 74 [.ref 3, .ref w, .int x2, .int z0] [] μ') :
    J l mX4_readLaw (jZ0 4 G (pV φ)) G 0 0 68 [.ref 3, .ref w, .int x2, .null] [.int z0] μ := by
  refine j_istore_n (ls' := [.ref 3, .ref w, .int x2, .int z0]) dX4_readLaw_68 rfl rfl (Nat.le_of_ble_eq_true rfl) rfl ?_
  refine j_aload_n dX4_readLaw_69 rfl rfl ?_
  refine j_aload_n dX4_readLaw_70 rfl rfl ?_
  refine j_cV (as := [.ref w]) (rest := []) dX4_readLaw_71 rfl vw_X4_181 (hG 3 (9, 13) rfl) rfl ⟨Nat.le_of_ble_eq_true rfl, Nat.le_of_ble_eq_true rfl⟩ rfl rfl (fun _ _ => Nat.le_of_ble_eq_true rfl) (e0 ) (fun r μ' hr => ?_)
  obtain ⟨rfl, hr⟩ := hr
  exact k0  μ' hr
theorem b_X4_readLaw_74 {l : Launch} {G : jG} {μ : jM} {φ : jM → Prop} {x2 x3 : Int32} {ψ0 : Int32 → jM → Prop} {w : Nat} (hG : gGG G) (hP : gPP μ) (hw : tO gLaw pLaw G μ w) 
    (e0 : jC0 l mX4_expect 2 G [.ref 3, .int 141] μ (pI ψ0)) 
    (k0 : ∀ v μ', ψ0 v μ' → J l mX4_readLaw (jZ0 4 G (pV φ)) G 0 0 81 [.ref 3, .ref w, .int x2, .int x3] [.int v] μ') :
    J l mX4_readLaw (jZ0 4 G (pV φ)) G 0 0 74 [.ref 3, .ref w, .int x2, .int x3] [] μ := by
  refine j_aload_n dX4_readLaw_74 rfl rfl ?_
  refine j_sipush 141 dX4_readLaw_75 rfl (by decide) ?_
  refine j_cV (as := [.int 141]) (rest := []) dX4_readLaw_78 rfl vw_X4_114 (hG 3 (9, 13) rfl) rfl ⟨Nat.le_of_ble_eq_true rfl, Nat.le_of_ble_eq_true rfl⟩ rfl rfl (fun _ _ => Nat.le_of_ble_eq_true rfl) (e0 ) (fun r μ' hr => ?_)
  obtain ⟨v, rfl, hr⟩ := hr
  exact k0  v μ' hr
theorem b_X4_readLaw_81 {l : Launch} {G : jG} {μ : jM} {φ : jM → Prop} {x2 x3 z0 : Int32} {ψ0 : Int32 → jM → Prop} {w : Nat} (hG : gGG G) (hP : gPP μ) (hw : tO gLaw pLaw G μ w) 
    (e0 : jC0 l mX2_add 0 G [.ref w, .int 7, .int 0] μ (pI ψ0)) 
    (k0 : ∀ v μ', ψ0 v μ' → J l mX4_readLaw (jZ0 4 G (pV φ)) G 0 0 89 [.ref 3, .ref w, .int x2, .int x3] [.int v] μ') :
    J l mX4_readLaw (jZ0 4 G (pV φ)) G 0 0 81 [.ref 3, .ref w, .int x2, .int x3] [.int z0] μ := by
  refine j_pop dX4_readLaw_81 rfl (fun _ _ => rfl) ?_
  refine j_aload_n dX4_readLaw_82 rfl rfl ?_
  refine j_bipush 7 dX4_readLaw_83 rfl (by decide) ?_
  refine j_iconst 0 dX4_readLaw_85 rfl (by decide) ?_
  refine j_cV (as := [.int 7, .int 0]) (rest := []) dX4_readLaw_86 rfl vw_X4_184 (hw.1 0 (7, 6) rfl) rfl ⟨Nat.le_of_ble_eq_true rfl, Nat.le_of_ble_eq_true rfl⟩ rfl rfl (fun _ _ => Nat.le_of_ble_eq_true rfl) (e0 ) (fun r μ' hr => ?_)
  obtain ⟨v, rfl, hr⟩ := hr
  exact k0  v μ' hr
theorem b_X4_readLaw_89 {l : Launch} {G : jG} {μ : jM} {φ : jM → Prop} {x2 x3 z0 : Int32} {ψ0 : jM → Prop} {w : Nat} (hG : gGG G) (hP : gPP μ) (hw : tO gLaw pLaw G μ w) 
    (e0 : jC0 l mX2_aim 0 G [.ref w, .int x3] μ (pV ψ0)) 
    (k0 : ∀ μ', ψ0 μ' → J l mX4_readLaw (jZ0 4 G (pV φ)) G 0 0 95 [.ref 3, .ref w, .int x2, .null] [] μ') :
    J l mX4_readLaw (jZ0 4 G (pV φ)) G 0 0 89 [.ref 3, .ref w, .int x2, .int x3] [.int z0] μ := by
  refine j_pop dX4_readLaw_89 rfl (fun _ _ => rfl) ?_
  refine j_aload_n dX4_readLaw_90 rfl rfl ?_
  refine j_iload_n dX4_readLaw_91 rfl rfl ?_
  refine j_cV (as := [.int x3]) (rest := []) dX4_readLaw_92 rfl vw_X4_187 (hw.1 0 (7, 6) rfl) rfl ⟨Nat.le_of_ble_eq_true rfl, Nat.le_of_ble_eq_true rfl⟩ rfl rfl (fun _ _ => Nat.le_of_ble_eq_true rfl) (e0 ) (fun r μ' hr => ?_)
  obtain ⟨rfl, hr⟩ := hr
  refine j_forget (ls' := [.ref 3, .ref w, .int x2, .null]) ⟨Or.inr rfl, Or.inr rfl, Or.inr rfl, Or.inl rfl, trivial⟩ ?_
  exact k0  μ' hr
theorem b_X4_readLaw_95 {l : Launch} {G : jG} {μ : jM} {φ : jM → Prop} {x2 : Int32} {w : Nat} (hG : gGG G) (hP : gPP μ) (hw : tO gLaw pLaw G μ w) 
    (k0 : J l mX4_readLaw (jZ0 4 G (pV φ)) G 0 0 17 [.ref 3, .ref w, .int (x2 + 1), .null] [] μ) :
    J l mX4_readLaw (jZ0 4 G (pV φ)) G 0 0 95 [.ref 3, .ref w, .int x2, .null] [] μ := by
  refine j_iinc (x2 + 1) (ls' := [.ref 3, .ref w, .int (x2 + 1), .null]) dX4_readLaw_95 rfl rfl rfl (Nat.le_of_ble_eq_true rfl) rfl ?_
  refine j_goto 17 dX4_readLaw_98 (by decide) ?_
  exact k0 
theorem b_X4_readLaw_105 {l : Launch} {G : jG} {μ : jM} {φ : jM → Prop} {z0 : Int32} {ψ0 : jM → Prop} {ψ1 : jM → Prop} {w : Nat} (hG : gGG G) (hP : gPP μ) (hw : tO gLaw pLaw G μ w) 
    (e0 : (¬ z0 = (139 : Int32)) → jC0 l mX4_readSum 3 G [.ref 3, .ref w] μ (pV ψ0)) 
    (k0 : (¬ z0 = (139 : Int32)) → ∀ μ', ψ0 μ' → J l mX4_readLaw (jZ0 4 G (pV φ)) G 0 0 121 [.null, .ref w, .null, .null] [] μ') 
    (e1 : (z0 = (139 : Int32)) → jC0 l mX4_failHere 0 G [.ref 3, .int 2] μ (pV ψ1)) 
    (k1 : (z0 = (139 : Int32)) → ∀ μ', ψ1 μ' → J l mX4_readLaw (jZ0 4 G (pV φ)) G 0 0 116 [.ref 3, .ref w, .null, .null] [] μ') :
    J l mX4_readLaw (jZ0 4 G (pV φ)) G 0 0 105 [.ref 3, .ref w, .null, .null] [.int z0] μ := by
  refine j_sipush 139 dX4_readLaw_105 rfl (by decide) ?_
  refine j_icmp_ne 116 dX4_readLaw_108 rfl (by decide) (fun c0 => ?_) (fun c0 => ?_)
  · skip
    refine j_aload_n dX4_readLaw_116 rfl rfl ?_
    refine j_aload_n dX4_readLaw_117 rfl rfl ?_
    refine j_cV (as := [.ref w]) (rest := []) dX4_readLaw_118 rfl vw_X4_181 (hG 3 (9, 13) rfl) rfl ⟨Nat.le_of_ble_eq_true rfl, Nat.le_of_ble_eq_true rfl⟩ rfl rfl (fun _ _ => Nat.le_of_ble_eq_true rfl) (e0 c0) (fun r μ' hr => ?_)
    obtain ⟨rfl, hr⟩ := hr
    refine j_forget (ls' := [.null, .ref w, .null, .null]) ⟨Or.inl rfl, Or.inr rfl, Or.inr rfl, Or.inr rfl, trivial⟩ ?_
    exact k0 c0 μ' hr
  · skip
    refine j_aload_n dX4_readLaw_111 rfl rfl ?_
    refine j_iconst 2 dX4_readLaw_112 rfl (by decide) ?_
    refine j_cV (as := [.int 2]) (rest := []) dX4_readLaw_113 rfl vw_X4_110 (hG 3 (9, 13) rfl) rfl ⟨Nat.le_of_ble_eq_true rfl, Nat.le_of_ble_eq_true rfl⟩ rfl rfl (fun _ _ => Nat.le_of_ble_eq_true rfl) (e1 c0) (fun r μ' hr => ?_)
    obtain ⟨rfl, hr⟩ := hr
    exact k1 c0 μ' hr
theorem b_X4_readLaw_116 {l : Launch} {G : jG} {μ : jM} {φ : jM → Prop} {ψ0 : jM → Prop} {w : Nat} (hG : gGG G) (hP : gPP μ) (hw : tO gLaw pLaw G μ w) 
    (e0 : jC0 l mX4_readSum 3 G [.ref 3, .ref w] μ (pV ψ0)) 
    (k0 : ∀ μ', ψ0 μ' → J l mX4_readLaw (jZ0 4 G (pV φ)) G 0 0 121 [.null, .ref w, .null, .null] [] μ') :
    J l mX4_readLaw (jZ0 4 G (pV φ)) G 0 0 116 [.ref 3, .ref w, .null, .null] [] μ := by
  refine j_aload_n dX4_readLaw_116 rfl rfl ?_
  refine j_aload_n dX4_readLaw_117 rfl rfl ?_
  refine j_cV (as := [.ref w]) (rest := []) dX4_readLaw_118 rfl vw_X4_181 (hG 3 (9, 13) rfl) rfl ⟨Nat.le_of_ble_eq_true rfl, Nat.le_of_ble_eq_true rfl⟩ rfl rfl (fun _ _ => Nat.le_of_ble_eq_true rfl) (e0 ) (fun r μ' hr => ?_)
  obtain ⟨rfl, hr⟩ := hr
  refine j_forget (ls' := [.null, .ref w, .null, .null]) ⟨Or.inl rfl, Or.inr rfl, Or.inr rfl, Or.inr rfl, trivial⟩ ?_
  exact k0  μ' hr
theorem b_X4_readLaw_121 {l : Launch} {G : jG} {μ : jM} {φ : jM → Prop} {ψ0 : Int32 → jM → Prop} {w : Nat} (hG : gGG G) (hP : gPP μ) (hw : tO gLaw pLaw G μ w) 
    (e0 : jC0 l mX2_add 0 G [.ref w, .int 7, .int 0] μ (pI ψ0)) 
    (k0 : ∀ v μ', ψ0 v μ' → J l mX4_readLaw (jZ0 4 G (pV φ)) G 0 0 128 [.null, .null, .null, .null] [.int v] μ') :
    J l mX4_readLaw (jZ0 4 G (pV φ)) G 0 0 121 [.null, .ref w, .null, .null] [] μ := by
  refine j_aload_n dX4_readLaw_121 rfl rfl ?_
  refine j_bipush 7 dX4_readLaw_122 rfl (by decide) ?_
  refine j_iconst 0 dX4_readLaw_124 rfl (by decide) ?_
  refine j_cV (as := [.int 7, .int 0]) (rest := []) dX4_readLaw_125 rfl vw_X4_184 (hw.1 0 (7, 6) rfl) rfl ⟨Nat.le_of_ble_eq_true rfl, Nat.le_of_ble_eq_true rfl⟩ rfl rfl (fun _ _ => Nat.le_of_ble_eq_true rfl) (e0 ) (fun r μ' hr => ?_)
  obtain ⟨v, rfl, hr⟩ := hr
  refine j_forget (ls' := [.null, .null, .null, .null]) ⟨Or.inr rfl, Or.inl rfl, Or.inr rfl, Or.inr rfl, trivial⟩ ?_
  exact k0  v μ' hr
theorem b_X4_readLaw_128 {l : Launch} {G : jG} {μ : jM} {φ : jM → Prop} {z0 : Int32} (hG : gGG G) (hP : gPP μ) 
    (k0 : φ μ) :
    J l mX4_readLaw (jZ0 4 G (pV φ)) G 0 0 128 [.null, .null, .null, .null] [.int z0] μ := by
  refine j_pop dX4_readLaw_128 rfl (fun _ _ => rfl) ?_
  exact j_vret dX4_readLaw_129 rfl (k0 )
theorem b_X4_readSum_0 {l : Launch} {G : jG} {μ : jM} {φ : jM → Prop} {ψ0 : jM → Prop} {w : Nat} (hG : gGG G) (hP : gPP μ) (hw : tO gLaw pLaw G μ w) 
    (e0 : jC0 l mX4_readUnit 2 G [.ref 3, .ref w] (wI (wI μ 3 5 0) 3 6 0) (pV ψ0)) 
    (k0 : ∀ μ', ψ0 μ' → J l mX4_readSum (jZ0 3 G (pV φ)) G 0 0 15 [.ref 3, .ref w, .null] [] μ') :
    J l mX4_readSum (jZ0 3 G (pV φ)) G 0 0 0 [.ref 3, .ref w, .null] [] μ := by
  refine j_aload_n dX4_readSum_0 rfl rfl ?_
  refine j_iconst 0 dX4_readSum_1 rfl (by decide) ?_
  refine j_putI (ci := 4) (N := 13) (f := 5) (T := TX4) dX4_readSum_2 rfl (hG 3 (9, 13) rfl) rfl (by decide) fl_X4_190 rfl rfl ?_
  refine j_aload_n dX4_readSum_5 rfl rfl ?_
  refine j_iconst 0 dX4_readSum_6 rfl (by decide) ?_
  refine j_putI (ci := 4) (N := 13) (f := 6) (T := TX4) dX4_readSum_7 rfl (hG 3 (9, 13) rfl) rfl (by decide) fl_X4_193 rfl rfl ?_
  refine j_aload_n dX4_readSum_10 rfl rfl ?_
  refine j_aload_n dX4_readSum_11 rfl rfl ?_
  refine j_cV (as := [.ref w]) (rest := []) dX4_readSum_12 rfl vw_X4_196 (hG 3 (9, 13) rfl) rfl ⟨Nat.le_of_ble_eq_true rfl, Nat.le_of_ble_eq_true rfl⟩ rfl rfl (fun _ _ => Nat.le_of_ble_eq_true rfl) (e0 ) (fun r μ' hr => ?_)
  obtain ⟨rfl, hr⟩ := hr
  exact k0  μ' hr
theorem b_X4_readSum_15 {l : Launch} {G : jG} {μ : jM} {φ : jM → Prop} {w : Nat} (hG : gGG G) (hP : gPP μ) (hw : tO gLaw pLaw G μ w) 
    (k0 : J l mX4_readSum (jZ0 3 G (pV φ)) G 0 0 17 [.ref 3, .ref w, .int 0] [] μ) :
    J l mX4_readSum (jZ0 3 G (pV φ)) G 0 0 15 [.ref 3, .ref w, .null] [] μ := by
  refine j_iconst 0 dX4_readSum_15 rfl (by decide) ?_
  refine j_istore_n (ls' := [.ref 3, .ref w, .int 0]) dX4_readSum_16 rfl rfl (Nat.le_of_ble_eq_true rfl) rfl ?_
  exact k0 
theorem b_X4_readSum_17 {l : Launch} {G : jG} {μ : jM} {φ : jM → Prop} {x2 : Int32} {ψ0 : jM → Prop} {ψ1 : Int32 → jM → Prop} {w : Nat} (hG : gGG G) (hP : gPP μ) (hw : tO gLaw pLaw G μ w) 
    (e0 : (400 ≤ (x2 : Int32)) → jC0 l mX4_settle 1 G [.ref 3, .ref w, .int 1] μ (pV ψ0)) 
    (k0 : (400 ≤ (x2 : Int32)) → ∀ μ', ψ0 μ' → J l mX4_readSum (jZ0 3 G (pV φ)) G 0 0 49 [.null, .null, .null] [] μ') 
    (e1 : (¬ (400 ≤ (x2 : Int32))) → jC0 l mX4_readOperator 2 G [.ref 3, .ref w] μ (pI ψ1)) 
    (k1 : (¬ (400 ≤ (x2 : Int32))) → ∀ v μ', ψ1 v μ' → J l mX4_readSum (jZ0 3 G (pV φ)) G 0 0 29 [.ref 3, .ref w, .int x2] [.int v] μ') :
    J l mX4_readSum (jZ0 3 G (pV φ)) G 0 0 17 [.ref 3, .ref w, .int x2] [] μ := by
  refine j_iload_n dX4_readSum_17 rfl rfl ?_
  refine j_sipush 400 dX4_readSum_18 rfl (by decide) ?_
  refine j_icmp_ge 43 dX4_readSum_21 rfl (by decide) (fun c0 => ?_) (fun c0 => ?_)
  · skip
    refine j_aload_n dX4_readSum_43 rfl rfl ?_
    refine j_aload_n dX4_readSum_44 rfl rfl ?_
    refine j_iconst 1 dX4_readSum_45 rfl (by decide) ?_
    refine j_cV (as := [.ref w, .int 1]) (rest := []) dX4_readSum_46 rfl vw_X4_203 (hG 3 (9, 13) rfl) rfl ⟨Nat.le_of_ble_eq_true rfl, Nat.le_of_ble_eq_true rfl⟩ rfl rfl (fun _ _ => Nat.le_of_ble_eq_true rfl) (e0 c0) (fun r μ' hr => ?_)
    obtain ⟨rfl, hr⟩ := hr
    refine j_forget (ls' := [.null, .null, .null]) ⟨Or.inl rfl, Or.inl rfl, Or.inl rfl, trivial⟩ ?_
    exact k0 c0 μ' hr
  · skip
    refine j_aload_n dX4_readSum_24 rfl rfl ?_
    refine j_aload_n dX4_readSum_25 rfl rfl ?_
    refine j_cV (as := [.ref w]) (rest := []) dX4_readSum_26 rfl vw_X4_199 (hG 3 (9, 13) rfl) rfl ⟨Nat.le_of_ble_eq_true rfl, Nat.le_of_ble_eq_true rfl⟩ rfl rfl (fun _ _ => Nat.le_of_ble_eq_true rfl) (e1 c0) (fun r μ' hr => ?_)
    obtain ⟨v, rfl, hr⟩ := hr
    exact k1 c0 v μ' hr
theorem b_X4_readSum_29 {l : Launch} {G : jG} {μ : jM} {φ : jM → Prop} {x2 z0 : Int32} {ψ0 : jM → Prop} {ψ1 : jM → Prop} {w : Nat} (hG : gGG G) (hP : gPP μ) (hw : tO gLaw pLaw G μ w) 
    (e0 : (z0 = (0 : Int32)) → jC0 l mX4_settle 1 G [.ref 3, .ref w, .int 1] μ (pV ψ0)) 
    (k0 : (z0 = (0 : Int32)) → ∀ μ', ψ0 μ' → J l mX4_readSum (jZ0 3 G (pV φ)) G 0 0 49 [.null, .null, .null] [] μ') 
    (e1 : (¬ (z0 = (0 : Int32))) → jC0 l mX4_readUnit 2 G [.ref 3, .ref w] μ (pV ψ1)) 
    (k1 : (¬ (z0 = (0 : Int32))) → ∀ μ', ψ1 μ' → J l mX4_readSum (jZ0 3 G (pV φ)) G 0 0 37 [.ref 3, .ref w, .int x2] [] μ') :
    J l mX4_readSum (jZ0 3 G (pV φ)) G 0 0 29 [.ref 3, .ref w, .int x2] [.int z0] μ := by
  refine j_if_eq 43 dX4_readSum_29 rfl (by decide) (fun c0 => ?_) (fun c0 => ?_)
  · skip
    refine j_aload_n dX4_readSum_43 rfl rfl ?_
    refine j_aload_n dX4_readSum_44 rfl rfl ?_
    refine j_iconst 1 dX4_readSum_45 rfl (by decide) ?_
    refine j_cV (as := [.ref w, .int 1]) (rest := []) dX4_readSum_46 rfl vw_X4_203 (hG 3 (9, 13) rfl) rfl ⟨Nat.le_of_ble_eq_true rfl, Nat.le_of_ble_eq_true rfl⟩ rfl rfl (fun _ _ => Nat.le_of_ble_eq_true rfl) (e0 c0) (fun r μ' hr => ?_)
    obtain ⟨rfl, hr⟩ := hr
    refine j_forget (ls' := [.null, .null, .null]) ⟨Or.inl rfl, Or.inl rfl, Or.inl rfl, trivial⟩ ?_
    exact k0 c0 μ' hr
  · skip
    refine j_aload_n dX4_readSum_32 rfl rfl ?_
    refine j_aload_n dX4_readSum_33 rfl rfl ?_
    refine j_cV (as := [.ref w]) (rest := []) dX4_readSum_34 rfl vw_X4_196 (hG 3 (9, 13) rfl) rfl ⟨Nat.le_of_ble_eq_true rfl, Nat.le_of_ble_eq_true rfl⟩ rfl rfl (fun _ _ => Nat.le_of_ble_eq_true rfl) (e1 c0) (fun r μ' hr => ?_)
    obtain ⟨rfl, hr⟩ := hr
    exact k1 c0 μ' hr
theorem b_X4_readSum_37 {l : Launch} {G : jG} {μ : jM} {φ : jM → Prop} {x2 : Int32} {w : Nat} (hG : gGG G) (hP : gPP μ) (hw : tO gLaw pLaw G μ w) 
    (k0 : J l mX4_readSum (jZ0 3 G (pV φ)) G 0 0 17 [.ref 3, .ref w, .int (x2 + 1)] [] μ) :
    J l mX4_readSum (jZ0 3 G (pV φ)) G 0 0 37 [.ref 3, .ref w, .int x2] [] μ := by
  refine j_iinc (x2 + 1) (ls' := [.ref 3, .ref w, .int (x2 + 1)]) dX4_readSum_37 rfl rfl rfl (Nat.le_of_ble_eq_true rfl) rfl ?_
  refine j_goto 17 dX4_readSum_40 (by decide) ?_
  exact k0 
theorem b_X4_readSum_49 {l : Launch} {G : jG} {μ : jM} {φ : jM → Prop} (hG : gGG G) (hP : gPP μ) 
    (k0 : φ μ) :
    J l mX4_readSum (jZ0 3 G (pV φ)) G 0 0 49 [.null, .null, .null] [] μ := by
  exact j_vret dX4_readSum_49 rfl (k0 )
theorem b_X4_readUnit_0 {l : Launch} {G : jG} {μ : jM} {φ : jM → Prop} {w : Nat} (hG : gGG G) (hP : gPP μ) (hw : tO gLaw pLaw G μ w) 
    (k0 : J l mX4_readUnit (jZ0 2 G (pV φ)) G 0 0 2 [.ref 3, .ref w, .int 0, .null] [] μ) :
    J l mX4_readUnit (jZ0 2 G (pV φ)) G 0 0 0 [.ref 3, .ref w, .null, .null] [] μ := by
  refine j_iconst 0 dX4_readUnit_0 rfl (by decide) ?_
  refine j_istore_n (ls' := [.ref 3, .ref w, .int 0, .null]) dX4_readUnit_1 rfl rfl (Nat.le_of_ble_eq_true rfl) rfl ?_
  exact k0 
theorem b_X4_readUnit_2 {l : Launch} {G : jG} {μ : jM} {φ : jM → Prop} {x2 : Int32} {ψ0 : Int32 → jM → Prop} {ψ1 : Int32 → jM → Prop} {w : Nat} (hG : gGG G) (hP : gPP μ) (hw : tO gLaw pLaw G μ w) 
    (e0 : (6 < (x2 : Int32)) → jC0 l mX4_kindHere 0 G [.ref 3] μ (pI ψ0)) 
    (k0 : (6 < (x2 : Int32)) → ∀ v μ', ψ0 v μ' → J l mX4_readUnit (jZ0 2 G (pV φ)) G 0 0 64 [.ref 3, .ref w, .null, .null] [.int v] μ') 
    (e1 : (¬ (6 < (x2 : Int32))) → jC0 l mX4_kindHere 0 G [.ref 3] μ (pI ψ1)) 
    (k1 : (¬ (6 < (x2 : Int32))) → ∀ v μ', ψ1 v μ' → J l mX4_readUnit (jZ0 2 G (pV φ)) G 0 0 12 [.ref 3, .ref w, .int x2, .null] [.int v] μ') :
    J l mX4_readUnit (jZ0 2 G (pV φ)) G 0 0 2 [.ref 3, .ref w, .int x2, .null] [] μ := by
  refine j_iload_n dX4_readUnit_2 rfl rfl ?_
  refine j_bipush 6 dX4_readUnit_3 rfl (by decide) ?_
  refine j_icmp_gt 60 dX4_readUnit_5 rfl (by decide) (fun c0 => ?_) (fun c0 => ?_)
  · skip
    refine j_aload_n dX4_readUnit_60 rfl rfl ?_
    refine j_cV (as := []) (rest := []) dX4_readUnit_61 rfl vw_X4_52 (hG 3 (9, 13) rfl) rfl ⟨Nat.le_of_ble_eq_true rfl, Nat.le_of_ble_eq_true rfl⟩ rfl rfl (fun _ _ => Nat.le_of_ble_eq_true rfl) (e0 c0) (fun r μ' hr => ?_)
    obtain ⟨v, rfl, hr⟩ := hr
    refine j_forget (ls' := [.ref 3, .ref w, .null, .null]) ⟨Or.inr rfl, Or.inr rfl, Or.inl rfl, Or.inr rfl, trivial⟩ ?_
    exact k0 c0 v μ' hr
  · skip
    refine j_aload_n dX4_readUnit_8 rfl rfl ?_
    refine j_cV (as := []) (rest := []) dX4_readUnit_9 rfl vw_X4_52 (hG 3 (9, 13) rfl) rfl ⟨Nat.le_of_ble_eq_true rfl, Nat.le_of_ble_eq_true rfl⟩ rfl rfl (fun _ _ => Nat.le_of_ble_eq_true rfl) (e1 c0) (fun r μ' hr => ?_)
    obtain ⟨v, rfl, hr⟩ := hr
    exact k1 c0 v μ' hr
theorem b_X4_readUnit_12 {l : Launch} {G : jG} {μ : jM} {φ : jM → Prop} {x2 z0 : Int32} {ψ0 : Int32 → jM → Prop} {ψ1 : jM → Prop} {ψ2 : jM → Prop} {w : Nat} (hG : gGG G) (hP : gPP μ) (hw : tO gLaw pLaw G μ w) 
    (e0 : (¬ z0 = (40 : Int32)) → jC0 l mX4_kindHere 0 G [.ref 3] μ (pI ψ0)) 
    (k0 : (¬ z0 = (40 : Int32)) → ∀ v μ', ψ0 v μ' → J l mX4_readUnit (jZ0 2 G (pV φ)) G 0 0 64 [.ref 3, .ref w, .null, .null] [.int v] μ') 
    (e1 : (z0 = (40 : Int32)) → ((μ.1 3 6) < (6 : Int32)) → jC0 l mX4_putOff 0 G [.ref 3, .int 40] μ (pV ψ1)) 
    (k1 : (z0 = (40 : Int32)) → ((μ.1 3 6) < (6 : Int32)) → ∀ μ', ψ1 μ' → J l mX4_readUnit (jZ0 2 G (pV φ)) G 0 0 40 [.ref 3, .ref w, .int x2, .null] [] μ') 
    (e2 : (z0 = (40 : Int32)) → (¬ ((μ.1 3 6) < (6 : Int32))) → jC0 l mX4_failHere 0 G [.ref 3, .int 2] μ (pV ψ2)) 
    (k2 : (z0 = (40 : Int32)) → (¬ ((μ.1 3 6) < (6 : Int32))) → ∀ μ', ψ2 μ' → J l mX4_readUnit (jZ0 2 G (pV φ)) G 0 0 31 [.ref 3, .ref w, .int x2, .null] [] μ') :
    J l mX4_readUnit (jZ0 2 G (pV φ)) G 0 0 12 [.ref 3, .ref w, .int x2, .null] [.int z0] μ := by
  refine j_bipush 40 dX4_readUnit_12 rfl (by decide) ?_
  refine j_icmp_ne 60 dX4_readUnit_14 rfl (by decide) (fun c0 => ?_) (fun c0 => ?_)
  · skip
    refine j_aload_n dX4_readUnit_60 rfl rfl ?_
    refine j_cV (as := []) (rest := []) dX4_readUnit_61 rfl vw_X4_52 (hG 3 (9, 13) rfl) rfl ⟨Nat.le_of_ble_eq_true rfl, Nat.le_of_ble_eq_true rfl⟩ rfl rfl (fun _ _ => Nat.le_of_ble_eq_true rfl) (e0 c0) (fun r μ' hr => ?_)
    obtain ⟨v, rfl, hr⟩ := hr
    refine j_forget (ls' := [.ref 3, .ref w, .null, .null]) ⟨Or.inr rfl, Or.inr rfl, Or.inl rfl, Or.inr rfl, trivial⟩ ?_
    exact k0 c0 v μ' hr
  · skip
    refine j_aload_n dX4_readUnit_17 rfl rfl ?_
    refine j_getI (ci := 4) (N := 13) (f := 6) (T := TX4) dX4_readUnit_18 rfl (hG 3 (9, 13) rfl) rfl (by decide) fl_X4_193 rfl ?_
    refine j_bipush 6 dX4_readUnit_21 rfl (by decide) ?_
    refine j_icmp_lt 34 dX4_readUnit_23 rfl (by decide) (fun c1 => ?_) (fun c1 => ?_)
    · skip
      refine j_aload_n dX4_readUnit_34 rfl rfl ?_
      refine j_bipush 40 dX4_readUnit_35 rfl (by decide) ?_
      refine j_cV (as := [.int 40]) (rest := []) dX4_readUnit_37 rfl vw_X4_207 (hG 3 (9, 13) rfl) rfl ⟨Nat.le_of_ble_eq_true rfl, Nat.le_of_ble_eq_true rfl⟩ rfl rfl (fun _ _ => Nat.le_of_ble_eq_true rfl) (e1 c0 c1) (fun r μ' hr => ?_)
      obtain ⟨rfl, hr⟩ := hr
      exact k1 c0 c1 μ' hr
    · skip
      refine j_aload_n dX4_readUnit_26 rfl rfl ?_
      refine j_iconst 2 dX4_readUnit_27 rfl (by decide) ?_
      refine j_cV (as := [.int 2]) (rest := []) dX4_readUnit_28 rfl vw_X4_110 (hG 3 (9, 13) rfl) rfl ⟨Nat.le_of_ble_eq_true rfl, Nat.le_of_ble_eq_true rfl⟩ rfl rfl (fun _ _ => Nat.le_of_ble_eq_true rfl) (e2 c0 c1) (fun r μ' hr => ?_)
      obtain ⟨rfl, hr⟩ := hr
      exact k2 c0 c1 μ' hr
theorem b_X4_readUnit_31 {l : Launch} {G : jG} {μ : jM} {φ : jM → Prop} {x2 : Int32} {w : Nat} (hG : gGG G) (hP : gPP μ) (hw : tO gLaw pLaw G μ w) 
    (k0 : J l mX4_readUnit (jZ0 2 G (pV φ)) G 0 0 2 [.ref 3, .ref w, .int (x2 + 1), .null] [] μ) :
    J l mX4_readUnit (jZ0 2 G (pV φ)) G 0 0 31 [.ref 3, .ref w, .int x2, .null] [] μ := by
  refine j_goto 54 dX4_readUnit_31 (by decide) ?_
  refine j_iinc (x2 + 1) (ls' := [.ref 3, .ref w, .int (x2 + 1), .null]) dX4_readUnit_54 rfl rfl rfl (Nat.le_of_ble_eq_true rfl) rfl ?_
  refine j_goto 2 dX4_readUnit_57 (by decide) ?_
  exact k0 
theorem b_X4_readUnit_40 {l : Launch} {G : jG} {μ : jM} {φ : jM → Prop} {x2 : Int32} {ψ0 : jM → Prop} {w : Nat} (hG : gGG G) (hP : gPP μ) (hw : tO gLaw pLaw G μ w) 
    (e0 : jC0 l mX4_take 1 G [.ref 3] (wI μ 3 6 ((μ.1 3 6) + 1)) (pV ψ0)) 
    (k0 : ∀ μ', ψ0 μ' → J l mX4_readUnit (jZ0 2 G (pV φ)) G 0 0 54 [.ref 3, .ref w, .int x2, .null] [] μ') :
    J l mX4_readUnit (jZ0 2 G (pV φ)) G 0 0 40 [.ref 3, .ref w, .int x2, .null] [] μ := by
  refine j_aload_n dX4_readUnit_40 rfl rfl ?_
  refine j_dup dX4_readUnit_41 rfl (fun _ _ => rfl) ?_
  refine j_getI (ci := 4) (N := 13) (f := 6) (T := TX4) dX4_readUnit_42 rfl (hG 3 (9, 13) rfl) rfl (by decide) fl_X4_193 rfl ?_
  refine j_iconst 1 dX4_readUnit_45 rfl (by decide) ?_
  refine j_iadd dX4_readUnit_46 rfl ?_
  refine j_putI (ci := 4) (N := 13) (f := 6) (T := TX4) dX4_readUnit_47 rfl (hG 3 (9, 13) rfl) rfl (by decide) fl_X4_193 rfl rfl ?_
  refine j_aload_n dX4_readUnit_50 rfl rfl ?_
  refine j_cV (as := []) (rest := []) dX4_readUnit_51 rfl vw_X4_91 (hG 3 (9, 13) rfl) rfl ⟨Nat.le_of_ble_eq_true rfl, Nat.le_of_ble_eq_true rfl⟩ rfl rfl (fun _ _ => Nat.le_of_ble_eq_true rfl) (e0 ) (fun r μ' hr => ?_)
  obtain ⟨rfl, hr⟩ := hr
  exact k0  μ' hr
theorem b_X4_readUnit_54 {l : Launch} {G : jG} {μ : jM} {φ : jM → Prop} {x2 : Int32} {w : Nat} (hG : gGG G) (hP : gPP μ) (hw : tO gLaw pLaw G μ w) 
    (k0 : J l mX4_readUnit (jZ0 2 G (pV φ)) G 0 0 2 [.ref 3, .ref w, .int (x2 + 1), .null] [] μ) :
    J l mX4_readUnit (jZ0 2 G (pV φ)) G 0 0 54 [.ref 3, .ref w, .int x2, .null] [] μ := by
  refine j_iinc (x2 + 1) (ls' := [.ref 3, .ref w, .int (x2 + 1), .null]) dX4_readUnit_54 rfl rfl rfl (Nat.le_of_ble_eq_true rfl) rfl ?_
  refine j_goto 2 dX4_readUnit_57 (by decide) ?_
  exact k0 
theorem b_X4_readUnit_64 {l : Launch} {G : jG} {μ : jM} {φ : jM → Prop} {z0 : Int32} {ψ0 : jM → Prop} {ψ1 : jM → Prop} {ψ2 : Int32 → jM → Prop} {w : Nat} (hG : gGG G) (hP : gPP μ) (hw : tO gLaw pLaw G μ w) 
    (e0 : (¬ z0 = (3 : Int32)) → (z0 < (142 : Int32)) → jC0 l mX4_failHere 0 G [.ref 3, .int 1] μ (pV ψ0)) 
    (k0 : (¬ z0 = (3 : Int32)) → (z0 < (142 : Int32)) → ∀ μ', ψ0 μ' → J l mX4_readUnit (jZ0 2 G (pV φ)) G 0 0 124 [.ref 3, .ref w, .null, .null] [] μ') 
    (e1 : (¬ z0 = (3 : Int32)) → (¬ (z0 < (142 : Int32))) → jC0 l mX2_addVar 1 G [.ref w, .int (z0 - 142)] μ (pV ψ1)) 
    (k1 : (¬ z0 = (3 : Int32)) → (¬ (z0 < (142 : Int32))) → ∀ μ', ψ1 μ' → J l mX4_readUnit (jZ0 2 G (pV φ)) G 0 0 112 [.ref 3, .ref w, .null, .null] [] μ') 
    (o0 : (z0 = (3 : Int32)) → vp_in (μ.1 3 8) 401) 
    (e2 : (z0 = (3 : Int32)) → jC0 l mX2_add 0 G [.ref w, .int 0, .int (Int64.toInt32 (μ.2.1 7 (Int32.toNatClampNeg (μ.1 3 8))))] μ (pI ψ2)) 
    (k2 : (z0 = (3 : Int32)) → ∀ v μ', ψ2 v μ' → J l mX4_readUnit (jZ0 2 G (pV φ)) G 0 0 88 [.ref 3, .ref w, .null, .null] [.int v] μ') :
    J l mX4_readUnit (jZ0 2 G (pV φ)) G 0 0 64 [.ref 3, .ref w, .null, .null] [.int z0] μ := by
  refine j_istore_n (ls' := [.ref 3, .ref w, .int z0, .null]) dX4_readUnit_64 rfl rfl (Nat.le_of_ble_eq_true rfl) rfl ?_
  refine j_iload_n dX4_readUnit_65 rfl rfl ?_
  refine j_iconst 3 dX4_readUnit_66 rfl (by decide) ?_
  refine j_icmp_ne 96 dX4_readUnit_67 rfl (by decide) (fun c0 => ?_) (fun c0 => ?_)
  · skip
    refine j_iload_n dX4_readUnit_96 rfl rfl ?_
    refine j_sipush 142 dX4_readUnit_97 rfl (by decide) ?_
    refine j_icmp_lt 119 dX4_readUnit_100 rfl (by decide) (fun c1 => ?_) (fun c1 => ?_)
    · skip
      refine j_aload_n dX4_readUnit_119 rfl rfl ?_
      refine j_iconst 1 dX4_readUnit_120 rfl (by decide) ?_
      refine j_cV (as := [.int 1]) (rest := []) dX4_readUnit_121 rfl vw_X4_110 (hG 3 (9, 13) rfl) rfl ⟨Nat.le_of_ble_eq_true rfl, Nat.le_of_ble_eq_true rfl⟩ rfl rfl (fun _ _ => Nat.le_of_ble_eq_true rfl) (e0 c0 c1) (fun r μ' hr => ?_)
      obtain ⟨rfl, hr⟩ := hr
      refine j_forget (ls' := [.ref 3, .ref w, .null, .null]) ⟨Or.inr rfl, Or.inr rfl, Or.inl rfl, Or.inr rfl, trivial⟩ ?_
      exact k0 c0 c1 μ' hr
    · skip
      refine j_aload_n dX4_readUnit_103 rfl rfl ?_
      refine j_iload_n dX4_readUnit_104 rfl rfl ?_
      refine j_sipush 142 dX4_readUnit_105 rfl (by decide) ?_
      refine j_isub dX4_readUnit_108 rfl ?_
      refine j_cV (as := [.int (z0 - 142)]) (rest := []) dX4_readUnit_109 rfl vw_X4_210 (hw.1 0 (7, 6) rfl) rfl ⟨Nat.le_of_ble_eq_true rfl, Nat.le_of_ble_eq_true rfl⟩ rfl rfl (fun _ _ => Nat.le_of_ble_eq_true rfl) (e1 c0 c1) (fun r μ' hr => ?_)
      obtain ⟨rfl, hr⟩ := hr
      refine j_forget (ls' := [.ref 3, .ref w, .null, .null]) ⟨Or.inr rfl, Or.inr rfl, Or.inl rfl, Or.inr rfl, trivial⟩ ?_
      exact k1 c0 c1 μ' hr
  · skip
    refine j_aload_n dX4_readUnit_70 rfl rfl ?_
    refine j_iconst 0 dX4_readUnit_71 rfl (by decide) ?_
    refine j_aload_n dX4_readUnit_72 rfl rfl ?_
    refine j_getR (ci := 4) (N := 13) (f := 1) (T := TX4) 4 dX4_readUnit_73 rfl (hG 3 (9, 13) rfl) rfl (by decide) fl_X4_12 rfl (hP 3 1 4 rfl) ?_
    refine j_getR (ci := 7) (N := 4) (f := 2) (T := TX7) 7 dX4_readUnit_76 rfl (hG 4 (12, 4) rfl) rfl (by decide) fl_X4_165 rfl (hP 4 2 7 rfl) ?_
    refine j_aload_n dX4_readUnit_79 rfl rfl ?_
    refine j_getI (ci := 4) (N := 13) (f := 8) (T := TX4) dX4_readUnit_80 rfl (hG 3 (9, 13) rfl) rfl (by decide) fl_X4_42 rfl ?_
    refine j_lald' (j := (Int32.toNatClampNeg (μ.1 3 8))) dX4_readUnit_83 rfl (hG 7 (3, 401) rfl) (o0 c0) rfl ?_
    refine j_l2i dX4_readUnit_84 rfl ?_
    refine j_cV (as := [.int 0, .int (Int64.toInt32 (μ.2.1 7 (Int32.toNatClampNeg (μ.1 3 8))))]) (rest := []) dX4_readUnit_85 rfl vw_X4_184 (hw.1 0 (7, 6) rfl) rfl ⟨Nat.le_of_ble_eq_true rfl, Nat.le_of_ble_eq_true rfl⟩ rfl rfl (fun _ _ => Nat.le_of_ble_eq_true rfl) (e2 c0) (fun r μ' hr => ?_)
    obtain ⟨v, rfl, hr⟩ := hr
    refine j_forget (ls' := [.ref 3, .ref w, .null, .null]) ⟨Or.inr rfl, Or.inr rfl, Or.inl rfl, Or.inr rfl, trivial⟩ ?_
    exact k2 c0 v μ' hr
theorem b_X4_readUnit_88 {l : Launch} {G : jG} {μ : jM} {φ : jM → Prop} {z0 : Int32} {ψ0 : jM → Prop} {w : Nat} (hG : gGG G) (hP : gPP μ) (hw : tO gLaw pLaw G μ w) 
    (e0 : jC0 l mX4_take 1 G [.ref 3] μ (pV ψ0)) 
    (k0 : ∀ μ', ψ0 μ' → J l mX4_readUnit (jZ0 2 G (pV φ)) G 0 0 93 [.ref 3, .ref w, .null, .null] [] μ') :
    J l mX4_readUnit (jZ0 2 G (pV φ)) G 0 0 88 [.ref 3, .ref w, .null, .null] [.int z0] μ := by
  refine j_pop dX4_readUnit_88 rfl (fun _ _ => rfl) ?_
  refine j_aload_n dX4_readUnit_89 rfl rfl ?_
  refine j_cV (as := []) (rest := []) dX4_readUnit_90 rfl vw_X4_91 (hG 3 (9, 13) rfl) rfl ⟨Nat.le_of_ble_eq_true rfl, Nat.le_of_ble_eq_true rfl⟩ rfl rfl (fun _ _ => Nat.le_of_ble_eq_true rfl) (e0 ) (fun r μ' hr => ?_)
  obtain ⟨rfl, hr⟩ := hr
  exact k0  μ' hr
theorem b_X4_readUnit_93 {l : Launch} {G : jG} {μ : jM} {φ : jM → Prop} {w : Nat} (hG : gGG G) (hP : gPP μ) (hw : tO gLaw pLaw G μ w) 
    (k0 : J l mX4_readUnit (jZ0 2 G (pV φ)) G 0 0 126 [.ref 3, .ref w, .null, .int 0] [] μ) :
    J l mX4_readUnit (jZ0 2 G (pV φ)) G 0 0 93 [.ref 3, .ref w, .null, .null] [] μ := by
  refine j_goto 124 dX4_readUnit_93 (by decide) ?_
  refine j_iconst 0 dX4_readUnit_124 rfl (by decide) ?_
  refine j_istore_n (ls' := [.ref 3, .ref w, .null, .int 0]) dX4_readUnit_125 rfl rfl (Nat.le_of_ble_eq_true rfl) rfl ?_
  exact k0 
theorem b_X4_readUnit_112 {l : Launch} {G : jG} {μ : jM} {φ : jM → Prop} {ψ0 : jM → Prop} {w : Nat} (hG : gGG G) (hP : gPP μ) (hw : tO gLaw pLaw G μ w) 
    (e0 : jC0 l mX4_take 1 G [.ref 3] μ (pV ψ0)) 
    (k0 : ∀ μ', ψ0 μ' → J l mX4_readUnit (jZ0 2 G (pV φ)) G 0 0 116 [.ref 3, .ref w, .null, .null] [] μ') :
    J l mX4_readUnit (jZ0 2 G (pV φ)) G 0 0 112 [.ref 3, .ref w, .null, .null] [] μ := by
  refine j_aload_n dX4_readUnit_112 rfl rfl ?_
  refine j_cV (as := []) (rest := []) dX4_readUnit_113 rfl vw_X4_91 (hG 3 (9, 13) rfl) rfl ⟨Nat.le_of_ble_eq_true rfl, Nat.le_of_ble_eq_true rfl⟩ rfl rfl (fun _ _ => Nat.le_of_ble_eq_true rfl) (e0 ) (fun r μ' hr => ?_)
  obtain ⟨rfl, hr⟩ := hr
  exact k0  μ' hr
theorem b_X4_readUnit_116 {l : Launch} {G : jG} {μ : jM} {φ : jM → Prop} {w : Nat} (hG : gGG G) (hP : gPP μ) (hw : tO gLaw pLaw G μ w) 
    (k0 : J l mX4_readUnit (jZ0 2 G (pV φ)) G 0 0 126 [.ref 3, .ref w, .null, .int 0] [] μ) :
    J l mX4_readUnit (jZ0 2 G (pV φ)) G 0 0 116 [.ref 3, .ref w, .null, .null] [] μ := by
  refine j_goto 124 dX4_readUnit_116 (by decide) ?_
  refine j_iconst 0 dX4_readUnit_124 rfl (by decide) ?_
  refine j_istore_n (ls' := [.ref 3, .ref w, .null, .int 0]) dX4_readUnit_125 rfl rfl (Nat.le_of_ble_eq_true rfl) rfl ?_
  exact k0 
theorem b_X4_readUnit_124 {l : Launch} {G : jG} {μ : jM} {φ : jM → Prop} {w : Nat} (hG : gGG G) (hP : gPP μ) (hw : tO gLaw pLaw G μ w) 
    (k0 : J l mX4_readUnit (jZ0 2 G (pV φ)) G 0 0 126 [.ref 3, .ref w, .null, .int 0] [] μ) :
    J l mX4_readUnit (jZ0 2 G (pV φ)) G 0 0 124 [.ref 3, .ref w, .null, .null] [] μ := by
  refine j_iconst 0 dX4_readUnit_124 rfl (by decide) ?_
  refine j_istore_n (ls' := [.ref 3, .ref w, .null, .int 0]) dX4_readUnit_125 rfl rfl (Nat.le_of_ble_eq_true rfl) rfl ?_
  exact k0 
theorem b_X4_readUnit_126 {l : Launch} {G : jG} {μ : jM} {φ : jM → Prop} {x3 : Int32} {ψ2 : Int32 → jM → Prop} {w : Nat} (hG : gGG G) (hP : gPP μ) (hw : tO gLaw pLaw G μ w) 
    (k0 : (6 < (x3 : Int32)) → φ μ) 
    (k1 : (¬ (6 < (x3 : Int32))) → ((μ.1 3 6) ≤ (0 : Int32)) → φ μ) 
    (e2 : (¬ (6 < (x3 : Int32))) → (¬ ((μ.1 3 6) ≤ (0 : Int32))) → jC0 l mX4_kindHere 0 G [.ref 3] μ (pI ψ2)) 
    (k2 : (¬ (6 < (x3 : Int32))) → (¬ ((μ.1 3 6) ≤ (0 : Int32))) → ∀ v μ', ψ2 v μ' → J l mX4_readUnit (jZ0 2 G (pV φ)) G 0 0 143 [.ref 3, .ref w, .null, .int x3] [.int v] μ') :
    J l mX4_readUnit (jZ0 2 G (pV φ)) G 0 0 126 [.ref 3, .ref w, .null, .int x3] [] μ := by
  refine j_iload_n dX4_readUnit_126 rfl rfl ?_
  refine j_bipush 6 dX4_readUnit_127 rfl (by decide) ?_
  refine j_icmp_gt 188 dX4_readUnit_129 rfl (by decide) (fun c0 => ?_) (fun c0 => ?_)
  · skip
    exact j_vret dX4_readUnit_188 rfl (k0 c0)
  · skip
    refine j_aload_n dX4_readUnit_132 rfl rfl ?_
    refine j_getI (ci := 4) (N := 13) (f := 6) (T := TX4) dX4_readUnit_133 rfl (hG 3 (9, 13) rfl) rfl (by decide) fl_X4_193 rfl ?_
    refine j_if_le 188 dX4_readUnit_136 rfl (by decide) (fun c1 => ?_) (fun c1 => ?_)
    · skip
      exact j_vret dX4_readUnit_188 rfl (k1 c0 c1)
    · skip
      refine j_aload_n dX4_readUnit_139 rfl rfl ?_
      refine j_cV (as := []) (rest := []) dX4_readUnit_140 rfl vw_X4_52 (hG 3 (9, 13) rfl) rfl ⟨Nat.le_of_ble_eq_true rfl, Nat.le_of_ble_eq_true rfl⟩ rfl rfl (fun _ _ => Nat.le_of_ble_eq_true rfl) (e2 c0 c1) (fun r μ' hr => ?_)
      obtain ⟨v, rfl, hr⟩ := hr
      exact k2 c0 c1 v μ' hr
theorem b_X4_readUnit_143 {l : Launch} {G : jG} {μ : jM} {φ : jM → Prop} {x3 z0 : Int32} {ψ1 : jM → Prop} {w : Nat} (hG : gGG G) (hP : gPP μ) (hw : tO gLaw pLaw G μ w) 
    (k0 : (¬ z0 = (41 : Int32)) → φ μ) 
    (e1 : (z0 = (41 : Int32)) → jC0 l mX4_settle 1 G [.ref 3, .ref w, .int 1] μ (pV ψ1)) 
    (k1 : (z0 = (41 : Int32)) → ∀ μ', ψ1 μ' → J l mX4_readUnit (jZ0 2 G (pV φ)) G 0 0 154 [.ref 3, .ref w, .null, .int x3] [] μ') :
    J l mX4_readUnit (jZ0 2 G (pV φ)) G 0 0 143 [.ref 3, .ref w, .null, .int x3] [.int z0] μ := by
  refine j_bipush 41 dX4_readUnit_143 rfl (by decide) ?_
  refine j_icmp_ne 188 dX4_readUnit_145 rfl (by decide) (fun c0 => ?_) (fun c0 => ?_)
  · skip
    exact j_vret dX4_readUnit_188 rfl (k0 c0)
  · skip
    refine j_aload_n dX4_readUnit_148 rfl rfl ?_
    refine j_aload_n dX4_readUnit_149 rfl rfl ?_
    refine j_iconst 1 dX4_readUnit_150 rfl (by decide) ?_
    refine j_cV (as := [.ref w, .int 1]) (rest := []) dX4_readUnit_151 rfl vw_X4_203 (hG 3 (9, 13) rfl) rfl ⟨Nat.le_of_ble_eq_true rfl, Nat.le_of_ble_eq_true rfl⟩ rfl rfl (fun _ _ => Nat.le_of_ble_eq_true rfl) (e1 c0) (fun r μ' hr => ?_)
    obtain ⟨rfl, hr⟩ := hr
    exact k1 c0 μ' hr
theorem b_X4_readUnit_154 {l : Launch} {G : jG} {μ : jM} {φ : jM → Prop} {x3 : Int32} {ψ0 : jM → Prop} {w : Nat} (hG : gGG G) (hP : gPP μ) (hw : tO gLaw pLaw G μ w) 
    (e0 : jC0 l mX4_take 1 G [.ref 3] (wI (wI μ 3 5 (if 0 < ((μ.1 3 5) - 1) then ((μ.1 3 5) - 1) else 0)) 3 6 ((μ.1 3 6) - 1)) (pV ψ0)) 
    (k0 : ∀ μ', ψ0 μ' → J l mX4_readUnit (jZ0 2 G (pV φ)) G 0 0 182 [.ref 3, .ref w, .null, .int x3] [] μ') :
    J l mX4_readUnit (jZ0 2 G (pV φ)) G 0 0 154 [.ref 3, .ref w, .null, .int x3] [] μ := by
  refine j_aload_n dX4_readUnit_154 rfl rfl ?_
  refine j_iconst 0 dX4_readUnit_155 rfl (by decide) ?_
  refine j_aload_n dX4_readUnit_156 rfl rfl ?_
  refine j_getI (ci := 4) (N := 13) (f := 5) (T := TX4) dX4_readUnit_157 rfl (hG 3 (9, 13) rfl) rfl (by decide) fl_X4_190 rfl ?_
  refine j_iconst 1 dX4_readUnit_160 rfl (by decide) ?_
  refine j_isub dX4_readUnit_161 rfl ?_
  refine j_max dX4_readUnit_162 rfl vw_X4_213 ⟨Nat.le_of_ble_eq_true rfl, fun _ _ => Nat.le_of_ble_eq_true rfl⟩ ?_
  refine j_putI (ci := 4) (N := 13) (f := 5) (T := TX4) dX4_readUnit_165 rfl (hG 3 (9, 13) rfl) rfl (by decide) fl_X4_190 rfl rfl ?_
  refine j_aload_n dX4_readUnit_168 rfl rfl ?_
  refine j_dup dX4_readUnit_169 rfl (fun _ _ => rfl) ?_
  refine j_getI (ci := 4) (N := 13) (f := 6) (T := TX4) dX4_readUnit_170 rfl (hG 3 (9, 13) rfl) rfl (by decide) fl_X4_193 rfl ?_
  refine j_iconst 1 dX4_readUnit_173 rfl (by decide) ?_
  refine j_isub dX4_readUnit_174 rfl ?_
  refine j_putI (ci := 4) (N := 13) (f := 6) (T := TX4) dX4_readUnit_175 rfl (hG 3 (9, 13) rfl) rfl (by decide) fl_X4_193 rfl rfl ?_
  refine j_aload_n dX4_readUnit_178 rfl rfl ?_
  refine j_cV (as := []) (rest := []) dX4_readUnit_179 rfl vw_X4_91 (hG 3 (9, 13) rfl) rfl ⟨Nat.le_of_ble_eq_true rfl, Nat.le_of_ble_eq_true rfl⟩ rfl rfl (fun _ _ => Nat.le_of_ble_eq_true rfl) (e0 ) (fun r μ' hr => ?_)
  obtain ⟨rfl, hr⟩ := hr
  exact k0  μ' hr
theorem b_X4_readUnit_182 {l : Launch} {G : jG} {μ : jM} {φ : jM → Prop} {x3 : Int32} {w : Nat} (hG : gGG G) (hP : gPP μ) (hw : tO gLaw pLaw G μ w) 
    (k0 : J l mX4_readUnit (jZ0 2 G (pV φ)) G 0 0 126 [.ref 3, .ref w, .null, .int (x3 + 1)] [] μ) :
    J l mX4_readUnit (jZ0 2 G (pV φ)) G 0 0 182 [.ref 3, .ref w, .null, .int x3] [] μ := by
  refine j_iinc (x3 + 1) (ls' := [.ref 3, .ref w, .null, .int (x3 + 1)]) dX4_readUnit_182 rfl rfl rfl (Nat.le_of_ble_eq_true rfl) rfl ?_
  refine j_goto 126 dX4_readUnit_185 (by decide) ?_
  exact k0 
theorem b_X4_readOperator_0 {l : Launch} {G : jG} {μ : jM} {φ : Int32 → jM → Prop} {ψ0 : Int32 → jM → Prop} {w : Nat} (hG : gGG G) (hP : gPP μ) (hw : tO gLaw pLaw G μ w) 
    (e0 : jC0 l mX4_kindHere 0 G [.ref 3] μ (pI ψ0)) 
    (k0 : ∀ v μ', ψ0 v μ' → J l mX4_readOperator (jZ0 2 G (pI φ)) G 0 0 4 [.ref 3, .ref w, .null, .null] [.int v] μ') :
    J l mX4_readOperator (jZ0 2 G (pI φ)) G 0 0 0 [.ref 3, .ref w, .null, .null] [] μ := by
  refine j_aload_n dX4_readOperator_0 rfl rfl ?_
  refine j_cV (as := []) (rest := []) dX4_readOperator_1 rfl vw_X4_52 (hG 3 (9, 13) rfl) rfl ⟨Nat.le_of_ble_eq_true rfl, Nat.le_of_ble_eq_true rfl⟩ rfl rfl (fun _ _ => Nat.le_of_ble_eq_true rfl) (e0 ) (fun r μ' hr => ?_)
  obtain ⟨v, rfl, hr⟩ := hr
  exact k0  v μ' hr
theorem b_X4_readOperator_4 {l : Launch} {G : jG} {μ : jM} {φ : Int32 → jM → Prop} {z0 : Int32} {ψ0 : Int32 → jM → Prop} {w : Nat} (hG : gGG G) (hP : gPP μ) (hw : tO gLaw pLaw G μ w) 
    (e0 : jC0 l mX4_rankOf 0 G [.int z0] μ (pI ψ0)) 
    (k0 : ∀ v μ', ψ0 v μ' → J l mX4_readOperator (jZ0 2 G (pI φ)) G 0 0 9 [.ref 3, .ref w, .int z0, .null] [.int v] μ') :
    J l mX4_readOperator (jZ0 2 G (pI φ)) G 0 0 4 [.ref 3, .ref w, .null, .null] [.int z0] μ := by
  refine j_istore_n (ls' := [.ref 3, .ref w, .int z0, .null]) dX4_readOperator_4 rfl rfl (Nat.le_of_ble_eq_true rfl) rfl ?_
  refine j_iload_n dX4_readOperator_5 rfl rfl ?_
  refine j_cS (as := [.int z0]) (rest := []) dX4_readOperator_6 rfl vw_X4_218 ⟨Nat.le_of_ble_eq_true rfl, Nat.le_of_ble_eq_true rfl⟩ rfl rfl (fun _ _ => Nat.le_of_ble_eq_true rfl) (e0 ) (fun r μ' hr => ?_)
  obtain ⟨v, rfl, hr⟩ := hr
  exact k0  v μ' hr
theorem b_X4_readOperator_9 {l : Launch} {G : jG} {μ : jM} {φ : Int32 → jM → Prop} {x2 z0 : Int32} {ψ0 : jM → Prop} {ψ2 : jM → Prop} {w : Nat} (hG : gGG G) (hP : gPP μ) (hw : tO gLaw pLaw G μ w) 
    (e0 : (¬ z0 = (0 : Int32)) → jC0 l mX4_settle 1 G [.ref 3, .ref w, .int z0] μ (pV ψ0)) 
    (k0 : (¬ z0 = (0 : Int32)) → ∀ μ', ψ0 μ' → J l mX4_readOperator (jZ0 2 G (pI φ)) G 0 0 34 [.ref 3, .null, .int x2, .null] [] μ') 
    (k1 : (z0 = (0 : Int32)) → ((μ.1 3 6) ≤ (0 : Int32)) → φ 0 μ) 
    (e2 : (z0 = (0 : Int32)) → (¬ ((μ.1 3 6) ≤ (0 : Int32))) → jC0 l mX4_failHere 0 G [.ref 3, .int 1] μ (pV ψ2)) 
    (k2 : (z0 = (0 : Int32)) → (¬ ((μ.1 3 6) ≤ (0 : Int32))) → ∀ μ', ψ2 μ' → J l mX4_readOperator (jZ0 2 G (pI φ)) G 0 0 26 [.null, .null, .null, .null] [] μ') :
    J l mX4_readOperator (jZ0 2 G (pI φ)) G 0 0 9 [.ref 3, .ref w, .int x2, .null] [.int z0] μ := by
  refine j_istore_n (ls' := [.ref 3, .ref w, .int x2, .int z0]) dX4_readOperator_9 rfl rfl (Nat.le_of_ble_eq_true rfl) rfl ?_
  refine j_iload_n dX4_readOperator_10 rfl rfl ?_
  refine j_if_ne 28 dX4_readOperator_11 rfl (by decide) (fun c0 => ?_) (fun c0 => ?_)
  · skip
    refine j_aload_n dX4_readOperator_28 rfl rfl ?_
    refine j_aload_n dX4_readOperator_29 rfl rfl ?_
    refine j_iload_n dX4_readOperator_30 rfl rfl ?_
    refine j_cV (as := [.ref w, .int z0]) (rest := []) dX4_readOperator_31 rfl vw_X4_203 (hG 3 (9, 13) rfl) rfl ⟨Nat.le_of_ble_eq_true rfl, Nat.le_of_ble_eq_true rfl⟩ rfl rfl (fun _ _ => Nat.le_of_ble_eq_true rfl) (e0 c0) (fun r μ' hr => ?_)
    obtain ⟨rfl, hr⟩ := hr
    refine j_forget (ls' := [.ref 3, .null, .int x2, .null]) ⟨Or.inr rfl, Or.inl rfl, Or.inr rfl, Or.inl rfl, trivial⟩ ?_
    exact k0 c0 μ' hr
  · skip
    refine j_aload_n dX4_readOperator_14 rfl rfl ?_
    refine j_getI (ci := 4) (N := 13) (f := 6) (T := TX4) dX4_readOperator_15 rfl (hG 3 (9, 13) rfl) rfl (by decide) fl_X4_193 rfl ?_
    refine j_if_le 26 dX4_readOperator_18 rfl (by decide) (fun c1 => ?_) (fun c1 => ?_)
    · skip
      refine j_iconst 0 dX4_readOperator_26 rfl (by decide) ?_
      exact j_zret dX4_readOperator_27 rfl (by decide) (k1 c0 c1)
    · skip
      refine j_aload_n dX4_readOperator_21 rfl rfl ?_
      refine j_iconst 1 dX4_readOperator_22 rfl (by decide) ?_
      refine j_cV (as := [.int 1]) (rest := []) dX4_readOperator_23 rfl vw_X4_110 (hG 3 (9, 13) rfl) rfl ⟨Nat.le_of_ble_eq_true rfl, Nat.le_of_ble_eq_true rfl⟩ rfl rfl (fun _ _ => Nat.le_of_ble_eq_true rfl) (e2 c0 c1) (fun r μ' hr => ?_)
      obtain ⟨rfl, hr⟩ := hr
      refine j_forget (ls' := [.null, .null, .null, .null]) ⟨Or.inl rfl, Or.inl rfl, Or.inl rfl, Or.inl rfl, trivial⟩ ?_
      exact k2 c0 c1 μ' hr
theorem b_X4_readOperator_26 {l : Launch} {G : jG} {μ : jM} {φ : Int32 → jM → Prop} (hG : gGG G) (hP : gPP μ) 
    (k0 : φ 0 μ) :
    J l mX4_readOperator (jZ0 2 G (pI φ)) G 0 0 26 [.null, .null, .null, .null] [] μ := by
  refine j_iconst 0 dX4_readOperator_26 rfl (by decide) ?_
  exact j_zret dX4_readOperator_27 rfl (by decide) (k0 )
theorem b_X4_readOperator_34 {l : Launch} {G : jG} {μ : jM} {φ : Int32 → jM → Prop} {x2 : Int32} {ψ0 : jM → Prop} (hG : gGG G) (hP : gPP μ) 
    (e0 : jC0 l mX4_putOff 0 G [.ref 3, .int x2] μ (pV ψ0)) 
    (k0 : ∀ μ', ψ0 μ' → J l mX4_readOperator (jZ0 2 G (pI φ)) G 0 0 39 [.ref 3, .null, .null, .null] [] μ') :
    J l mX4_readOperator (jZ0 2 G (pI φ)) G 0 0 34 [.ref 3, .null, .int x2, .null] [] μ := by
  refine j_aload_n dX4_readOperator_34 rfl rfl ?_
  refine j_iload_n dX4_readOperator_35 rfl rfl ?_
  refine j_cV (as := [.int x2]) (rest := []) dX4_readOperator_36 rfl vw_X4_207 (hG 3 (9, 13) rfl) rfl ⟨Nat.le_of_ble_eq_true rfl, Nat.le_of_ble_eq_true rfl⟩ rfl rfl (fun _ _ => Nat.le_of_ble_eq_true rfl) (e0 ) (fun r μ' hr => ?_)
  obtain ⟨rfl, hr⟩ := hr
  refine j_forget (ls' := [.ref 3, .null, .null, .null]) ⟨Or.inr rfl, Or.inr rfl, Or.inl rfl, Or.inr rfl, trivial⟩ ?_
  exact k0  μ' hr
theorem b_X4_readOperator_39 {l : Launch} {G : jG} {μ : jM} {φ : Int32 → jM → Prop} {ψ0 : jM → Prop} (hG : gGG G) (hP : gPP μ) 
    (e0 : jC0 l mX4_take 1 G [.ref 3] μ (pV ψ0)) 
    (k0 : ∀ μ', ψ0 μ' → J l mX4_readOperator (jZ0 2 G (pI φ)) G 0 0 43 [.null, .null, .null, .null] [] μ') :
    J l mX4_readOperator (jZ0 2 G (pI φ)) G 0 0 39 [.ref 3, .null, .null, .null] [] μ := by
  refine j_aload_n dX4_readOperator_39 rfl rfl ?_
  refine j_cV (as := []) (rest := []) dX4_readOperator_40 rfl vw_X4_91 (hG 3 (9, 13) rfl) rfl ⟨Nat.le_of_ble_eq_true rfl, Nat.le_of_ble_eq_true rfl⟩ rfl rfl (fun _ _ => Nat.le_of_ble_eq_true rfl) (e0 ) (fun r μ' hr => ?_)
  obtain ⟨rfl, hr⟩ := hr
  refine j_forget (ls' := [.null, .null, .null, .null]) ⟨Or.inl rfl, Or.inr rfl, Or.inr rfl, Or.inr rfl, trivial⟩ ?_
  exact k0  μ' hr
theorem b_X4_readOperator_43 {l : Launch} {G : jG} {μ : jM} {φ : Int32 → jM → Prop} (hG : gGG G) (hP : gPP μ) 
    (k0 : φ 1 μ) :
    J l mX4_readOperator (jZ0 2 G (pI φ)) G 0 0 43 [.null, .null, .null, .null] [] μ := by
  refine j_iconst 1 dX4_readOperator_43 rfl (by decide) ?_
  exact j_zret dX4_readOperator_44 rfl (by decide) (k0 )
theorem b_X4_putOff_0 {l : Launch} {G : jG} {μ : jM} {φ : jM → Prop} {x1 : Int32} (hG : gGG G) (hP : gPP μ) 
    (k0 : (24 ≤ ((μ.1 3 5) : Int32)) → φ μ) 
    (o0 : (¬ (24 ≤ ((μ.1 3 5) : Int32))) → vp_in (μ.1 3 5) 24) 
    (k1 : (¬ (24 ≤ ((μ.1 3 5) : Int32))) → φ (wI (wI μ 11 (Int32.toNatClampNeg (μ.1 3 5)) x1) 3 5 ((μ.1 3 5) + 1))) :
    J l mX4_putOff (jZ0 0 G (pV φ)) G 0 0 0 [.ref 3, .int x1] [] μ := by
  refine j_aload_n dX4_putOff_0 rfl rfl ?_
  refine j_getI (ci := 4) (N := 13) (f := 5) (T := TX4) dX4_putOff_1 rfl (hG 3 (9, 13) rfl) rfl (by decide) fl_X4_190 rfl ?_
  refine j_bipush 24 dX4_putOff_4 rfl (by decide) ?_
  refine j_icmp_ge 29 dX4_putOff_6 rfl (by decide) (fun c0 => ?_) (fun c0 => ?_)
  · skip
    exact j_vret dX4_putOff_29 rfl (k0 c0)
  · skip
    refine j_aload_n dX4_putOff_9 rfl rfl ?_
    refine j_getR (ci := 4) (N := 13) (f := 4) (T := TX4) 11 dX4_putOff_10 rfl (hG 3 (9, 13) rfl) rfl (by decide) fl_X4_25 rfl (hP 3 4 11 rfl) ?_
    refine j_aload_n dX4_putOff_13 rfl rfl ?_
    refine j_getI (ci := 4) (N := 13) (f := 5) (T := TX4) dX4_putOff_14 rfl (hG 3 (9, 13) rfl) rfl (by decide) fl_X4_190 rfl ?_
    refine j_iload_n dX4_putOff_17 rfl rfl ?_
    refine j_iast' (j := (Int32.toNatClampNeg (μ.1 3 5))) dX4_putOff_18 rfl (hG 11 (0, 24) rfl) (o0 c0) rfl ?_
    refine j_aload_n dX4_putOff_19 rfl rfl ?_
    refine j_dup dX4_putOff_20 rfl (fun _ _ => rfl) ?_
    refine j_getI (ci := 4) (N := 13) (f := 5) (T := TX4) dX4_putOff_21 rfl (hG 3 (9, 13) rfl) rfl (by decide) fl_X4_190 rfl ?_
    refine j_iconst 1 dX4_putOff_24 rfl (by decide) ?_
    refine j_iadd dX4_putOff_25 rfl ?_
    refine j_putI (ci := 4) (N := 13) (f := 5) (T := TX4) dX4_putOff_26 rfl (hG 3 (9, 13) rfl) rfl (by decide) fl_X4_190 rfl rfl ?_
    exact j_vret dX4_putOff_29 rfl (k1 c0)
theorem b_X4_settle_0 {l : Launch} {G : jG} {μ : jM} {φ : jM → Prop} {x2 : Int32} {ψ1 : Int32 → jM → Prop} {w : Nat} (hG : gGG G) (hP : gPP μ) (hw : tO gLaw pLaw G μ w) 
    (k0 : ((μ.1 3 5) ≤ (0 : Int32)) → φ μ) 
    (o0 : (¬ ((μ.1 3 5) ≤ (0 : Int32))) → vp_in ((μ.1 3 5) - 1) 24) 
    (e1 : (¬ ((μ.1 3 5) ≤ (0 : Int32))) → jC0 l mX4_rankOf 0 G [.int (μ.1 11 (Int32.toNatClampNeg ((μ.1 3 5) - 1)))] μ (pI ψ1)) 
    (k1 : (¬ ((μ.1 3 5) ≤ (0 : Int32))) → ∀ v μ', ψ1 v μ' → J l mX4_settle (jZ0 1 G (pV φ)) G 0 0 21 [.ref 3, .ref w, .int x2] [.int v] μ') :
    J l mX4_settle (jZ0 1 G (pV φ)) G 0 0 0 [.ref 3, .ref w, .int x2] [] μ := by
  refine j_aload_n dX4_settle_0 rfl rfl ?_
  refine j_getI (ci := 4) (N := 13) (f := 5) (T := TX4) dX4_settle_1 rfl (hG 3 (9, 13) rfl) rfl (by decide) fl_X4_190 rfl ?_
  refine j_if_le 56 dX4_settle_4 rfl (by decide) (fun c0 => ?_) (fun c0 => ?_)
  · skip
    exact j_vret dX4_settle_56 rfl (k0 c0)
  · skip
    refine j_aload_n dX4_settle_7 rfl rfl ?_
    refine j_getR (ci := 4) (N := 13) (f := 4) (T := TX4) 11 dX4_settle_8 rfl (hG 3 (9, 13) rfl) rfl (by decide) fl_X4_25 rfl (hP 3 4 11 rfl) ?_
    refine j_aload_n dX4_settle_11 rfl rfl ?_
    refine j_getI (ci := 4) (N := 13) (f := 5) (T := TX4) dX4_settle_12 rfl (hG 3 (9, 13) rfl) rfl (by decide) fl_X4_190 rfl ?_
    refine j_iconst 1 dX4_settle_15 rfl (by decide) ?_
    refine j_isub dX4_settle_16 rfl ?_
    refine j_iald' (j := (Int32.toNatClampNeg ((μ.1 3 5) - 1))) dX4_settle_17 rfl (hG 11 (0, 24) rfl) (o0 c0) rfl ?_
    refine j_cS (as := [.int (μ.1 11 (Int32.toNatClampNeg ((μ.1 3 5) - 1)))]) (rest := []) dX4_settle_18 rfl vw_X4_218 ⟨Nat.le_of_ble_eq_true rfl, Nat.le_of_ble_eq_true rfl⟩ rfl rfl (fun _ _ => Nat.le_of_ble_eq_true rfl) (e1 c0) (fun r μ' hr => ?_)
    obtain ⟨v, rfl, hr⟩ := hr
    exact k1 c0 v μ' hr
theorem b_X4_settle_21 {l : Launch} {G : jG} {μ : jM} {φ : jM → Prop} {x2 z0 : Int32} {ψ1 : Int32 → jM → Prop} {w : Nat} (hG : gGG G) (hP : gPP μ) (hw : tO gLaw pLaw G μ w) 
    (k0 : (z0 < (x2 : Int32)) → φ μ) 
    (o0 : (¬ (z0 < (x2 : Int32))) → vp_in ((μ.1 3 5) - 1) 24) 
    (e1 : (¬ (z0 < (x2 : Int32))) → jC0 l mX4_workOf 0 G [.int (μ.1 11 (Int32.toNatClampNeg ((μ.1 3 5) - 1)))] (wI μ 3 5 ((μ.1 3 5) - 1)) (pI ψ1)) 
    (k1 : (¬ (z0 < (x2 : Int32))) → ∀ v μ', ψ1 v μ' → J l mX4_settle (jZ0 1 G (pV φ)) G 0 0 48 [.ref 3, .ref w, .int x2] [.int v, .ref w] μ') :
    J l mX4_settle (jZ0 1 G (pV φ)) G 0 0 21 [.ref 3, .ref w, .int x2] [.int z0] μ := by
  refine j_iload_n dX4_settle_21 rfl rfl ?_
  refine j_icmp_lt 56 dX4_settle_22 rfl (by decide) (fun c0 => ?_) (fun c0 => ?_)
  · skip
    exact j_vret dX4_settle_56 rfl (k0 c0)
  · skip
    refine j_aload_n dX4_settle_25 rfl rfl ?_
    refine j_dup dX4_settle_26 rfl (fun _ _ => rfl) ?_
    refine j_getI (ci := 4) (N := 13) (f := 5) (T := TX4) dX4_settle_27 rfl (hG 3 (9, 13) rfl) rfl (by decide) fl_X4_190 rfl ?_
    refine j_iconst 1 dX4_settle_30 rfl (by decide) ?_
    refine j_isub dX4_settle_31 rfl ?_
    refine j_putI (ci := 4) (N := 13) (f := 5) (T := TX4) dX4_settle_32 rfl (hG 3 (9, 13) rfl) rfl (by decide) fl_X4_190 rfl rfl ?_
    refine j_aload_n dX4_settle_35 rfl rfl ?_
    refine j_aload_n dX4_settle_36 rfl rfl ?_
    refine j_getR (ci := 4) (N := 13) (f := 4) (T := TX4) 11 dX4_settle_37 rfl (hG 3 (9, 13) rfl) rfl (by decide) fl_X4_25 rfl (hP 3 4 11 rfl) ?_
    refine j_aload_n dX4_settle_40 rfl rfl ?_
    refine j_getI (ci := 4) (N := 13) (f := 5) (T := TX4) dX4_settle_41 rfl (hG 3 (9, 13) rfl) rfl (by decide) fl_X4_190 rfl ?_
    refine j_iald' (j := (Int32.toNatClampNeg ((μ.1 3 5) - 1))) dX4_settle_44 rfl (hG 11 (0, 24) rfl) (o0 c0) rfl ?_
    refine j_cS (as := [.int (μ.1 11 (Int32.toNatClampNeg ((μ.1 3 5) - 1)))]) (rest := [.ref w]) dX4_settle_45 rfl vw_X4_221 ⟨Nat.le_of_ble_eq_true rfl, Nat.le_of_ble_eq_true rfl⟩ rfl rfl (fun _ _ => Nat.le_of_ble_eq_true rfl) (e1 c0) (fun r μ' hr => ?_)
    obtain ⟨v, rfl, hr⟩ := hr
    exact k1 c0 v μ' hr
theorem b_X4_settle_48 {l : Launch} {G : jG} {μ : jM} {φ : jM → Prop} {x2 z0 : Int32} {ψ0 : Int32 → jM → Prop} {w : Nat} (hG : gGG G) (hP : gPP μ) (hw : tO gLaw pLaw G μ w) 
    (e0 : jC0 l mX2_add 0 G [.ref w, .int z0, .int 0] μ (pI ψ0)) 
    (k0 : ∀ v μ', ψ0 v μ' → J l mX4_settle (jZ0 1 G (pV φ)) G 0 0 52 [.ref 3, .ref w, .int x2] [.int v] μ') :
    J l mX4_settle (jZ0 1 G (pV φ)) G 0 0 48 [.ref 3, .ref w, .int x2] [.int z0, .ref w] μ := by
  refine j_iconst 0 dX4_settle_48 rfl (by decide) ?_
  refine j_cV (as := [.int z0, .int 0]) (rest := []) dX4_settle_49 rfl vw_X4_184 (hw.1 0 (7, 6) rfl) rfl ⟨Nat.le_of_ble_eq_true rfl, Nat.le_of_ble_eq_true rfl⟩ rfl rfl (fun _ _ => Nat.le_of_ble_eq_true rfl) (e0 ) (fun r μ' hr => ?_)
  obtain ⟨v, rfl, hr⟩ := hr
  exact k0  v μ' hr
theorem b_X4_settle_52 {l : Launch} {G : jG} {μ : jM} {φ : jM → Prop} {x2 z0 : Int32} {w : Nat} (hG : gGG G) (hP : gPP μ) (hw : tO gLaw pLaw G μ w) 
    (k0 : J l mX4_settle (jZ0 1 G (pV φ)) G 0 0 0 [.ref 3, .ref w, .int x2] [] μ) :
    J l mX4_settle (jZ0 1 G (pV φ)) G 0 0 52 [.ref 3, .ref w, .int x2] [.int z0] μ := by
  refine j_pop dX4_settle_52 rfl (fun _ _ => rfl) ?_
  refine j_goto 0 dX4_settle_53 (by decide) ?_
  exact k0 
theorem b_X4_rankOf_0 {l : Launch} {G : jG} {μ : jM} {φ : Int32 → jM → Prop} {x0 : Int32} (hG : gGG G) (hP : gPP μ) 
    (k0 : (x0 = (42 : Int32)) → φ 2 μ) 
    (k1 : (¬ x0 = (42 : Int32)) → (x0 = (43 : Int32)) → φ 1 μ) 
    (k2 : (¬ x0 = (42 : Int32)) → (¬ x0 = (43 : Int32)) → (x0 = (44 : Int32)) → φ 0 μ) 
    (k3 : (¬ x0 = (42 : Int32)) → (¬ x0 = (43 : Int32)) → (¬ x0 = (44 : Int32)) → (x0 = (45 : Int32)) → φ 1 μ) 
    (k4 : (¬ x0 = (42 : Int32)) → (¬ x0 = (43 : Int32)) → (¬ x0 = (44 : Int32)) → (¬ x0 = (45 : Int32)) → (x0 = (46 : Int32)) → φ 0 μ) 
    (k5 : (¬ x0 = (42 : Int32)) → (¬ x0 = (43 : Int32)) → (¬ x0 = (44 : Int32)) → (¬ x0 = (45 : Int32)) → (¬ x0 = (46 : Int32)) → (x0 = (47 : Int32)) → φ 2 μ) 
    (k6 : (¬ x0 = (42 : Int32)) → (¬ x0 = (43 : Int32)) → (¬ x0 = (44 : Int32)) → (¬ x0 = (45 : Int32)) → (¬ x0 = (46 : Int32)) → (¬ x0 = (47 : Int32)) → φ 0 μ) :
    J l mX4_rankOf (jZ0 0 G (pI φ)) G 0 0 0 [.int x0] [] μ := by
  refine j_iload_n dX4_rankOf_0 rfl rfl ?_
  by_cases c0 : x0 = (42 : Int32)
  · skip
    refine j_tableIn (off := 41) 42 dX4_rankOf_1 (sw_1 c0 (by decide)) (sw_2 c0 (by decide)) (sw_3 c0 (by decide)) (by decide) ?_
    refine j_iconst 2 dX4_rankOf_42 rfl (by decide) ?_
    exact j_iret dX4_rankOf_43 rfl (k0 c0)
  by_cases c1 : x0 = (43 : Int32)
  · skip
    refine j_tableIn (off := 39) 40 dX4_rankOf_1 (sw_1 c1 (by decide)) (sw_2 c1 (by decide)) (sw_3 c1 (by decide)) (by decide) ?_
    refine j_iconst 1 dX4_rankOf_40 rfl (by decide) ?_
    exact j_iret dX4_rankOf_41 rfl (k1 c0 c1)
  by_cases c2 : x0 = (44 : Int32)
  · skip
    refine j_tableIn (off := 43) 44 dX4_rankOf_1 (sw_1 c2 (by decide)) (sw_2 c2 (by decide)) (sw_3 c2 (by decide)) (by decide) ?_
    refine j_iconst 0 dX4_rankOf_44 rfl (by decide) ?_
    exact j_iret dX4_rankOf_45 rfl (k2 c0 c1 c2)
  by_cases c3 : x0 = (45 : Int32)
  · skip
    refine j_tableIn (off := 39) 40 dX4_rankOf_1 (sw_1 c3 (by decide)) (sw_2 c3 (by decide)) (sw_3 c3 (by decide)) (by decide) ?_
    refine j_iconst 1 dX4_rankOf_40 rfl (by decide) ?_
    exact j_iret dX4_rankOf_41 rfl (k3 c0 c1 c2 c3)
  by_cases c4 : x0 = (46 : Int32)
  · skip
    refine j_tableIn (off := 43) 44 dX4_rankOf_1 (sw_1 c4 (by decide)) (sw_2 c4 (by decide)) (sw_3 c4 (by decide)) (by decide) ?_
    refine j_iconst 0 dX4_rankOf_44 rfl (by decide) ?_
    exact j_iret dX4_rankOf_45 rfl (k4 c0 c1 c2 c3 c4)
  by_cases c5 : x0 = (47 : Int32)
  · skip
    refine j_tableIn (off := 41) 42 dX4_rankOf_1 (sw_1 c5 (by decide)) (sw_2 c5 (by decide)) (sw_3 c5 (by decide)) (by decide) ?_
    refine j_iconst 2 dX4_rankOf_42 rfl (by decide) ?_
    exact j_iret dX4_rankOf_43 rfl (k5 c0 c1 c2 c3 c4 c5)
  refine j_tableOut 44 dX4_rankOf_1 (sw_o [42, 43, 44, 45, 46, 47] (by decide) ⟨c0, c1, c2, c3, c4, c5, trivial⟩) (by decide) ?_
  refine j_iconst 0 dX4_rankOf_44 rfl (by decide) ?_
  exact j_iret dX4_rankOf_45 rfl (k6 c0 c1 c2 c3 c4 c5)
theorem b_X4_workOf_0 {l : Launch} {G : jG} {μ : jM} {φ : Int32 → jM → Prop} {x0 : Int32} (hG : gGG G) (hP : gPP μ) 
    (k0 : (x0 = (42 : Int32)) → φ 4 μ) 
    (k1 : (¬ x0 = (42 : Int32)) → (x0 = (43 : Int32)) → φ 2 μ) 
    (k2 : (¬ x0 = (42 : Int32)) → (¬ x0 = (43 : Int32)) → (x0 = (44 : Int32)) → φ 5 μ) 
    (k3 : (¬ x0 = (42 : Int32)) → (¬ x0 = (43 : Int32)) → (¬ x0 = (44 : Int32)) → (x0 = (45 : Int32)) → φ 3 μ) 
    (k4 : (¬ x0 = (42 : Int32)) → (¬ x0 = (43 : Int32)) → (¬ x0 = (44 : Int32)) → (¬ x0 = (45 : Int32)) → φ 5 μ) :
    J l mX4_workOf (jZ0 0 G (pI φ)) G 0 0 0 [.int x0] [] μ := by
  refine j_iload_n dX4_workOf_0 rfl rfl ?_
  by_cases c0 : x0 = (42 : Int32)
  · skip
    refine j_tableIn (off := 35) 36 dX4_workOf_1 (sw_1 c0 (by decide)) (sw_2 c0 (by decide)) (sw_3 c0 (by decide)) (by decide) ?_
    refine j_iconst 4 dX4_workOf_36 rfl (by decide) ?_
    exact j_iret dX4_workOf_37 rfl (k0 c0)
  by_cases c1 : x0 = (43 : Int32)
  · skip
    refine j_tableIn (off := 31) 32 dX4_workOf_1 (sw_1 c1 (by decide)) (sw_2 c1 (by decide)) (sw_3 c1 (by decide)) (by decide) ?_
    refine j_iconst 2 dX4_workOf_32 rfl (by decide) ?_
    exact j_iret dX4_workOf_33 rfl (k1 c0 c1)
  by_cases c2 : x0 = (44 : Int32)
  · skip
    refine j_tableIn (off := 37) 38 dX4_workOf_1 (sw_1 c2 (by decide)) (sw_2 c2 (by decide)) (sw_3 c2 (by decide)) (by decide) ?_
    refine j_iconst 5 dX4_workOf_38 rfl (by decide) ?_
    exact j_iret dX4_workOf_39 rfl (k2 c0 c1 c2)
  by_cases c3 : x0 = (45 : Int32)
  · skip
    refine j_tableIn (off := 33) 34 dX4_workOf_1 (sw_1 c3 (by decide)) (sw_2 c3 (by decide)) (sw_3 c3 (by decide)) (by decide) ?_
    refine j_iconst 3 dX4_workOf_34 rfl (by decide) ?_
    exact j_iret dX4_workOf_35 rfl (k3 c0 c1 c2 c3)
  refine j_tableOut 38 dX4_workOf_1 (sw_o [42, 43, 44, 45] (by decide) ⟨c0, c1, c2, c3, trivial⟩) (by decide) ?_
  refine j_iconst 5 dX4_workOf_38 rfl (by decide) ?_
  exact j_iret dX4_workOf_39 rfl (k4 c0 c1 c2 c3)
theorem b_X4_numberOf_0 {l : Launch} {G : jG} {μ : jM} {φ : Int32 → jM → Prop} {x3 : Int32} {x0 : Int64} {nN nm : Nat} (hG : gGG G) (hP : gPP μ) (hgnm : G[nm]? = some (3, nN)) 
    (k0 : J l mX4_numberOf (jZ0 0 G (pI φ)) G 0 0 3 [.long x0, .null, .ref nm, .int x3, .int 0] [] μ) :
    J l mX4_numberOf (jZ0 0 G (pI φ)) G 0 0 0 [.long x0, .null, .ref nm, .int x3, .null] [] μ := by
  refine j_iconst 0 dX4_numberOf_0 rfl (by decide) ?_
  refine j_istore (ls' := [.long x0, .null, .ref nm, .int x3, .int 0]) dX4_numberOf_1 rfl (Nat.le_of_ble_eq_true rfl) rfl ?_
  exact k0 
theorem b_X4_numberOf_3 {l : Launch} {G : jG} {μ : jM} {φ : Int32 → jM → Prop} {x3 x4 : Int32} {x0 : Int64} {nN nm : Nat} (hG : gGG G) (hP : gPP μ) (hgnm : G[nm]? = some (3, nN)) 
    (k0 : (x3 ≤ (x4 : Int32)) → φ (-1) μ) 
    (k1 : (¬ (x3 ≤ (x4 : Int32))) → ((Int32.ofNat nN) ≤ (x4 : Int32)) → φ (-1) μ) 
    (o0 : (¬ (x3 ≤ (x4 : Int32))) → (¬ ((Int32.ofNat nN) ≤ (x4 : Int32))) → vp_in x4 nN) 
    (k2 : (¬ (x3 ≤ (x4 : Int32))) → (¬ ((Int32.ofNat nN) ≤ (x4 : Int32))) → (¬ (lg_cmp (μ.2.1 nm (Int32.toNatClampNeg x4)) x0) = (0 : Int32)) → J l mX4_numberOf (jZ0 0 G (pI φ)) G 0 0 3 [.long x0, .null, .ref nm, .int x3, .int (x4 + 1)] [] μ) 
    (k3 : (¬ (x3 ≤ (x4 : Int32))) → (¬ ((Int32.ofNat nN) ≤ (x4 : Int32))) → ((lg_cmp (μ.2.1 nm (Int32.toNatClampNeg x4)) x0) = (0 : Int32)) → φ x4 μ) :
    J l mX4_numberOf (jZ0 0 G (pI φ)) G 0 0 3 [.long x0, .null, .ref nm, .int x3, .int x4] [] μ := by
  refine j_iload dX4_numberOf_3 rfl rfl ?_
  refine j_iload_n dX4_numberOf_5 rfl rfl ?_
  refine j_icmp_ge 34 dX4_numberOf_6 rfl (by decide) (fun c0 => ?_) (fun c0 => ?_)
  · skip
    refine j_iconst (-1) dX4_numberOf_34 rfl (by decide) ?_
    exact j_iret dX4_numberOf_35 rfl (k0 c0)
  · skip
    refine j_iload dX4_numberOf_9 rfl rfl ?_
    refine j_aload_n dX4_numberOf_11 rfl rfl ?_
    refine j_alen (Int32.ofNat nN) dX4_numberOf_12 rfl hgnm (by decide) rfl ?_
    refine j_icmp_ge 34 dX4_numberOf_13 rfl (by decide) (fun c1 => ?_) (fun c1 => ?_)
    · skip
      refine j_iconst (-1) dX4_numberOf_34 rfl (by decide) ?_
      exact j_iret dX4_numberOf_35 rfl (k1 c0 c1)
    · skip
      refine j_aload_n dX4_numberOf_16 rfl rfl ?_
      refine j_iload dX4_numberOf_17 rfl rfl ?_
      refine j_lald' (j := (Int32.toNatClampNeg x4)) dX4_numberOf_19 rfl hgnm (o0 c0 c1) rfl ?_
      refine j_lload_n dX4_numberOf_20 rfl rfl ?_
      refine j_lcmp dX4_numberOf_21 rfl ?_
      refine j_if_ne 28 dX4_numberOf_22 rfl (by decide) (fun c2 => ?_) (fun c2 => ?_)
      · skip
        refine j_iinc (x4 + 1) (ls' := [.long x0, .null, .ref nm, .int x3, .int (x4 + 1)]) dX4_numberOf_28 rfl rfl rfl (Nat.le_of_ble_eq_true rfl) rfl ?_
        refine j_goto 3 dX4_numberOf_31 (by decide) ?_
        exact k2 c0 c1 c2
      · skip
        refine j_iload dX4_numberOf_25 rfl rfl ?_
        exact j_iret dX4_numberOf_27 rfl (k3 c0 c1 c2)
theorem b_X4_kindHere_0 {l : Launch} {G : jG} {μ : jM} {φ : Int32 → jM → Prop} (hG : gGG G) (hP : gPP μ) 
    (k0 : (¬ (μ.1 3 9) = (0 : Int32)) → φ (-1) μ) 
    (o0 : ((μ.1 3 9) = (0 : Int32)) → vp_in (μ.1 3 8) 401) 
    (k1 : ((μ.1 3 9) = (0 : Int32)) → φ (μ.1 5 (Int32.toNatClampNeg (μ.1 3 8))) μ) :
    J l mX4_kindHere (jZ0 0 G (pI φ)) G 0 0 0 [.ref 3] [] μ := by
  refine j_aload_n dX4_kindHere_0 rfl rfl ?_
  refine j_getI (ci := 4) (N := 13) (f := 9) (T := TX4) dX4_kindHere_1 rfl (hG 3 (9, 13) rfl) rfl (by decide) fl_X4_46 rfl ?_
  refine j_if_ne 22 dX4_kindHere_4 rfl (by decide) (fun c0 => ?_) (fun c0 => ?_)
  · skip
    refine j_iconst (-1) dX4_kindHere_22 rfl (by decide) ?_
    exact j_iret dX4_kindHere_23 rfl (k0 c0)
  · skip
    refine j_aload_n dX4_kindHere_7 rfl rfl ?_
    refine j_getR (ci := 4) (N := 13) (f := 1) (T := TX4) 4 dX4_kindHere_8 rfl (hG 3 (9, 13) rfl) rfl (by decide) fl_X4_12 rfl (hP 3 1 4 rfl) ?_
    refine j_getR (ci := 7) (N := 4) (f := 0) (T := TX7) 5 dX4_kindHere_11 rfl (hG 4 (12, 4) rfl) rfl (by decide) fl_X4_224 rfl (hP 4 0 5 rfl) ?_
    refine j_aload_n dX4_kindHere_14 rfl rfl ?_
    refine j_getI (ci := 4) (N := 13) (f := 8) (T := TX4) dX4_kindHere_15 rfl (hG 3 (9, 13) rfl) rfl (by decide) fl_X4_42 rfl ?_
    refine j_iald' (j := (Int32.toNatClampNeg (μ.1 3 8))) dX4_kindHere_18 rfl (hG 5 (0, 401) rfl) (o0 c0) rfl ?_
    refine j_goto 23 dX4_kindHere_19 (by decide) ?_
    exact j_iret dX4_kindHere_23 rfl (k1 c0)
theorem b_X4_expect_0 {l : Launch} {G : jG} {μ : jM} {φ : Int32 → jM → Prop} {x1 : Int32} {ψ0 : Int32 → jM → Prop} (hG : gGG G) (hP : gPP μ) 
    (e0 : jC0 l mX4_kindHere 0 G [.ref 3] μ (pI ψ0)) 
    (k0 : ∀ v μ', ψ0 v μ' → J l mX4_expect (jZ0 2 G (pI φ)) G 0 0 4 [.ref 3, .int x1] [.int v] μ') :
    J l mX4_expect (jZ0 2 G (pI φ)) G 0 0 0 [.ref 3, .int x1] [] μ := by
  refine j_aload_n dX4_expect_0 rfl rfl ?_
  refine j_cV (as := []) (rest := []) dX4_expect_1 rfl vw_X4_52 (hG 3 (9, 13) rfl) rfl ⟨Nat.le_of_ble_eq_true rfl, Nat.le_of_ble_eq_true rfl⟩ rfl rfl (fun _ _ => Nat.le_of_ble_eq_true rfl) (e0 ) (fun r μ' hr => ?_)
  obtain ⟨v, rfl, hr⟩ := hr
  exact k0  v μ' hr
theorem b_X4_expect_4 {l : Launch} {G : jG} {μ : jM} {φ : Int32 → jM → Prop} {x1 z0 : Int32} {ψ0 : jM → Prop} {ψ1 : jM → Prop} (hG : gGG G) (hP : gPP μ) 
    (e0 : (z0 = (x1 : Int32)) → jC0 l mX4_take 1 G [.ref 3] μ (pV ψ0)) 
    (k0 : (z0 = (x1 : Int32)) → ∀ μ', ψ0 μ' → J l mX4_expect (jZ0 2 G (pI φ)) G 0 0 19 [.null, .null] [] μ') 
    (e1 : (¬ (z0 = (x1 : Int32))) → jC0 l mX4_failHere 0 G [.ref 3, .int 1] μ (pV ψ1)) 
    (k1 : (¬ (z0 = (x1 : Int32))) → ∀ μ', ψ1 μ' → J l mX4_expect (jZ0 2 G (pI φ)) G 0 0 13 [.null, .null] [] μ') :
    J l mX4_expect (jZ0 2 G (pI φ)) G 0 0 4 [.ref 3, .int x1] [.int z0] μ := by
  refine j_iload_n dX4_expect_4 rfl rfl ?_
  refine j_icmp_eq 15 dX4_expect_5 rfl (by decide) (fun c0 => ?_) (fun c0 => ?_)
  · skip
    refine j_aload_n dX4_expect_15 rfl rfl ?_
    refine j_cV (as := []) (rest := []) dX4_expect_16 rfl vw_X4_91 (hG 3 (9, 13) rfl) rfl ⟨Nat.le_of_ble_eq_true rfl, Nat.le_of_ble_eq_true rfl⟩ rfl rfl (fun _ _ => Nat.le_of_ble_eq_true rfl) (e0 c0) (fun r μ' hr => ?_)
    obtain ⟨rfl, hr⟩ := hr
    refine j_forget (ls' := [.null, .null]) ⟨Or.inl rfl, Or.inl rfl, trivial⟩ ?_
    exact k0 c0 μ' hr
  · skip
    refine j_aload_n dX4_expect_8 rfl rfl ?_
    refine j_iconst 1 dX4_expect_9 rfl (by decide) ?_
    refine j_cV (as := [.int 1]) (rest := []) dX4_expect_10 rfl vw_X4_110 (hG 3 (9, 13) rfl) rfl ⟨Nat.le_of_ble_eq_true rfl, Nat.le_of_ble_eq_true rfl⟩ rfl rfl (fun _ _ => Nat.le_of_ble_eq_true rfl) (e1 c0) (fun r μ' hr => ?_)
    obtain ⟨rfl, hr⟩ := hr
    refine j_forget (ls' := [.null, .null]) ⟨Or.inl rfl, Or.inl rfl, trivial⟩ ?_
    exact k1 c0 μ' hr
theorem b_X4_expect_13 {l : Launch} {G : jG} {μ : jM} {φ : Int32 → jM → Prop} (hG : gGG G) (hP : gPP μ) 
    (k0 : φ 0 μ) :
    J l mX4_expect (jZ0 2 G (pI φ)) G 0 0 13 [.null, .null] [] μ := by
  refine j_iconst 0 dX4_expect_13 rfl (by decide) ?_
  exact j_zret dX4_expect_14 rfl (by decide) (k0 )
theorem b_X4_expect_19 {l : Launch} {G : jG} {μ : jM} {φ : Int32 → jM → Prop} (hG : gGG G) (hP : gPP μ) 
    (k0 : φ 1 μ) :
    J l mX4_expect (jZ0 2 G (pI φ)) G 0 0 19 [.null, .null] [] μ := by
  refine j_iconst 1 dX4_expect_19 rfl (by decide) ?_
  exact j_zret dX4_expect_20 rfl (by decide) (k0 )
theorem b_X4_take_0 {l : Launch} {G : jG} {μ : jM} {φ : jM → Prop} {ψ2 : jM → Prop} (hG : gGG G) (hP : gPP μ) 
    (k0 : ((μ.1 3 8) < (400 : Int32)) → (¬ (μ.1 3 9) = (0 : Int32)) → φ μ) 
    (k1 : ((μ.1 3 8) < (400 : Int32)) → ((μ.1 3 9) = (0 : Int32)) → φ (wI μ 3 8 ((μ.1 3 8) + 1))) 
    (e2 : (¬ ((μ.1 3 8) < (400 : Int32))) → jC0 l mX4_failHere 0 G [.ref 3, .int 2] μ (pV ψ2)) 
    (k2 : (¬ ((μ.1 3 8) < (400 : Int32))) → ∀ μ', ψ2 μ' → J l mX4_take (jZ0 1 G (pV φ)) G 0 0 15 [.null] [] μ') :
    J l mX4_take (jZ0 1 G (pV φ)) G 0 0 0 [.ref 3] [] μ := by
  refine j_aload_n dX4_take_0 rfl rfl ?_
  refine j_getI (ci := 4) (N := 13) (f := 8) (T := TX4) dX4_take_1 rfl (hG 3 (9, 13) rfl) rfl (by decide) fl_X4_42 rfl ?_
  refine j_sipush 400 dX4_take_4 rfl (by decide) ?_
  refine j_icmp_lt 18 dX4_take_7 rfl (by decide) (fun c0 => ?_) (fun c0 => ?_)
  · skip
    refine j_aload_n dX4_take_18 rfl rfl ?_
    refine j_getI (ci := 4) (N := 13) (f := 9) (T := TX4) dX4_take_19 rfl (hG 3 (9, 13) rfl) rfl (by decide) fl_X4_46 rfl ?_
    refine j_if_ne 35 dX4_take_22 rfl (by decide) (fun c1 => ?_) (fun c1 => ?_)
    · skip
      exact j_vret dX4_take_35 rfl (k0 c0 c1)
    · skip
      refine j_aload_n dX4_take_25 rfl rfl ?_
      refine j_dup dX4_take_26 rfl (fun _ _ => rfl) ?_
      refine j_getI (ci := 4) (N := 13) (f := 8) (T := TX4) dX4_take_27 rfl (hG 3 (9, 13) rfl) rfl (by decide) fl_X4_42 rfl ?_
      refine j_iconst 1 dX4_take_30 rfl (by decide) ?_
      refine j_iadd dX4_take_31 rfl ?_
      refine j_putI (ci := 4) (N := 13) (f := 8) (T := TX4) dX4_take_32 rfl (hG 3 (9, 13) rfl) rfl (by decide) fl_X4_42 rfl rfl ?_
      exact j_vret dX4_take_35 rfl (k1 c0 c1)
  · skip
    refine j_aload_n dX4_take_10 rfl rfl ?_
    refine j_iconst 2 dX4_take_11 rfl (by decide) ?_
    refine j_cV (as := [.int 2]) (rest := []) dX4_take_12 rfl vw_X4_110 (hG 3 (9, 13) rfl) rfl ⟨Nat.le_of_ble_eq_true rfl, Nat.le_of_ble_eq_true rfl⟩ rfl rfl (fun _ _ => Nat.le_of_ble_eq_true rfl) (e2 c0) (fun r μ' hr => ?_)
    obtain ⟨rfl, hr⟩ := hr
    refine j_forget (ls' := [.null]) ⟨Or.inl rfl, trivial⟩ ?_
    exact k2 c0 μ' hr
theorem b_X4_take_15 {l : Launch} {G : jG} {μ : jM} {φ : jM → Prop} (hG : gGG G) (hP : gPP μ) 
    (k0 : φ μ) :
    J l mX4_take (jZ0 1 G (pV φ)) G 0 0 15 [.null] [] μ := by
  refine j_goto 35 dX4_take_15 (by decide) ?_
  exact j_vret dX4_take_35 rfl (k0 )
theorem b_X4_failHere_0 {l : Launch} {G : jG} {μ : jM} {φ : jM → Prop} {x1 : Int32} (hG : gGG G) (hP : gPP μ) 
    (k0 : (¬ (μ.1 3 9) = (0 : Int32)) → φ μ) 
    (o0 : ((μ.1 3 9) = (0 : Int32)) → vp_in (μ.1 3 8) 401) 
    (k1 : ((μ.1 3 9) = (0 : Int32)) → φ (wI (wI μ 3 9 x1) 3 10 (μ.1 6 (Int32.toNatClampNeg (μ.1 3 8))))) :
    J l mX4_failHere (jZ0 0 G (pV φ)) G 0 0 0 [.ref 3, .int x1] [] μ := by
  refine j_aload_n dX4_failHere_0 rfl rfl ?_
  refine j_getI (ci := 4) (N := 13) (f := 9) (T := TX4) dX4_failHere_1 rfl (hG 3 (9, 13) rfl) rfl (by decide) fl_X4_46 rfl ?_
  refine j_if_ne 28 dX4_failHere_4 rfl (by decide) (fun c0 => ?_) (fun c0 => ?_)
  · skip
    exact j_vret dX4_failHere_28 rfl (k0 c0)
  · skip
    refine j_aload_n dX4_failHere_7 rfl rfl ?_
    refine j_iload_n dX4_failHere_8 rfl rfl ?_
    refine j_putI (ci := 4) (N := 13) (f := 9) (T := TX4) dX4_failHere_9 rfl (hG 3 (9, 13) rfl) rfl (by decide) fl_X4_46 rfl rfl ?_
    refine j_aload_n dX4_failHere_12 rfl rfl ?_
    refine j_aload_n dX4_failHere_13 rfl rfl ?_
    refine j_getR (ci := 4) (N := 13) (f := 1) (T := TX4) 4 dX4_failHere_14 rfl (hG 3 (9, 13) rfl) rfl (by decide) fl_X4_12 rfl (hP 3 1 4 rfl) ?_
    refine j_getR (ci := 7) (N := 4) (f := 1) (T := TX7) 6 dX4_failHere_17 rfl (hG 4 (12, 4) rfl) rfl (by decide) fl_X4_168 rfl (hP 4 1 6 rfl) ?_
    refine j_aload_n dX4_failHere_20 rfl rfl ?_
    refine j_getI (ci := 4) (N := 13) (f := 8) (T := TX4) dX4_failHere_21 rfl (hG 3 (9, 13) rfl) rfl (by decide) fl_X4_42 rfl ?_
    refine j_iald' (j := (Int32.toNatClampNeg (μ.1 3 8))) dX4_failHere_24 rfl (hG 6 (0, 401) rfl) (o0 c0) rfl ?_
    refine j_putI (ci := 4) (N := 13) (f := 10) (T := TX4) dX4_failHere_25 rfl (hG 3 (9, 13) rfl) rfl (by decide) fl_X4_59 rfl rfl ?_
    exact j_vret dX4_failHere_28 rfl (k1 c0)
theorem b_X4_failSense_0 {l : Launch} {G : jG} {μ : jM} {φ : jM → Prop} {x1 x2 : Int32} (hG : gGG G) (hP : gPP μ) 
    (k0 : (¬ (μ.1 3 11) = (0 : Int32)) → φ μ) 
    (k1 : ((μ.1 3 11) = (0 : Int32)) → φ (wI (wI μ 3 11 x1) 3 12 x2)) :
    J l mX4_failSense (jZ0 0 G (pV φ)) G 0 0 0 [.ref 3, .int x1, .int x2] [] μ := by
  refine j_aload_n dX4_failSense_0 rfl rfl ?_
  refine j_getI (ci := 4) (N := 13) (f := 11) (T := TX4) dX4_failSense_1 rfl (hG 3 (9, 13) rfl) rfl (by decide) fl_X4_49 rfl ?_
  refine j_if_ne 17 dX4_failSense_4 rfl (by decide) (fun c0 => ?_) (fun c0 => ?_)
  · skip
    exact j_vret dX4_failSense_17 rfl (k0 c0)
  · skip
    refine j_aload_n dX4_failSense_7 rfl rfl ?_
    refine j_iload_n dX4_failSense_8 rfl rfl ?_
    refine j_putI (ci := 4) (N := 13) (f := 11) (T := TX4) dX4_failSense_9 rfl (hG 3 (9, 13) rfl) rfl (by decide) fl_X4_49 rfl rfl ?_
    refine j_aload_n dX4_failSense_12 rfl rfl ?_
    refine j_iload_n dX4_failSense_13 rfl rfl ?_
    refine j_putI (ci := 4) (N := 13) (f := 12) (T := TX4) dX4_failSense_14 rfl (hG 3 (9, 13) rfl) rfl (by decide) fl_X4_65 rfl rfl ?_
    exact j_vret dX4_failSense_17 rfl (k1 c0)
