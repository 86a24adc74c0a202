theorem b_X11_feed_0 {l : Launch} {G : jG} {μ : jM} {φ : Int32 → jM → Prop} {x1 x2 x3 x4 x5 : Int32} {ψ0 : jM → Prop} (hG : gGG G) (hP : gPP μ) 
    (e0 : (((μ.1 1 1) + 20) ≤ (2000 : Int32)) → jC0 l mX6_add 0 G [.ref 1, .int x1] μ (pV ψ0)) 
    (k0 : (((μ.1 1 1) + 20) ≤ (2000 : Int32)) → ∀ μ', ψ0 μ' → J l mX11_feed (jZ0 1 G (pI φ)) G 0 0 26 [.ref 0, .null, .int x2, .int x3, .int x4, .int x5] [] μ') 
    (k1 : (¬ (((μ.1 1 1) + 20) ≤ (2000 : Int32))) → φ (-1) μ) :
    J l mX11_feed (jZ0 1 G (pI φ)) G 0 0 0 [.ref 0, .int x1, .int x2, .int x3, .int x4, .int x5] [] μ := by
  refine j_aload_n dX11_feed_0 rfl rfl ?_
  refine j_getR (ci := 11) (N := 9) (f := 0) (T := TX11) 1 dX11_feed_1 rfl (hG 0 (16, 9) rfl) rfl (by decide) fl_X11_10 rfl (hP 0 0 1 rfl) ?_
  refine j_getI (ci := 6) (N := 2) (f := 1) (T := TX6) dX11_feed_4 rfl (hG 1 (11, 2) rfl) rfl (by decide) fl_X11_85 rfl ?_
  refine j_bipush 20 dX11_feed_7 rfl (by decide) ?_
  refine j_iadd dX11_feed_9 rfl ?_
  refine j_sipush 2000 dX11_feed_10 rfl (by decide) ?_
  refine j_icmp_le 18 dX11_feed_13 rfl (by decide) (fun c0 => ?_) (fun c0 => ?_)
  · skip
    refine j_aload_n dX11_feed_18 rfl rfl ?_
    refine j_getR (ci := 11) (N := 9) (f := 0) (T := TX11) 1 dX11_feed_19 rfl (hG 0 (16, 9) rfl) rfl (by decide) fl_X11_10 rfl (hP 0 0 1 rfl) ?_
    refine j_iload_n dX11_feed_22 rfl rfl ?_
    refine j_cV (as := [.int x1]) (rest := []) dX11_feed_23 rfl vw_X11_88 (hG 1 (11, 2) rfl) rfl ⟨Nat.le_of_ble_eq_true rfl, Nat.le_of_ble_eq_true rfl⟩ rfl rfl (fun _ _ => Nat.le_of_ble_eq_true rfl) (e0 c0) (fun r μ' hr => ?_)
    obtain ⟨rfl, hr⟩ := hr
    refine j_forget (ls' := [.ref 0, .null, .int x2, .int x3, .int x4, .int x5]) ⟨Or.inr rfl, Or.inl rfl, Or.inr rfl, Or.inr rfl, Or.inr rfl, Or.inr rfl, trivial⟩ ?_
    exact k0 c0 μ' hr
  · skip
    refine j_iconst (-1) dX11_feed_16 rfl (by decide) ?_
    exact j_iret dX11_feed_17 rfl (k1 c0)
theorem b_X11_feed_26 {l : Launch} {G : jG} {μ : jM} {φ : Int32 → jM → Prop} {x2 x3 x4 x5 : Int32} {ψ0 : jM → Prop} (hG : gGG G) (hP : gPP μ) 
    (e0 : jC0 l mX6_add 0 G [.ref 1, .int x2] μ (pV ψ0)) 
    (k0 : ∀ μ', ψ0 μ' → J l mX11_feed (jZ0 1 G (pI φ)) G 0 0 34 [.ref 0, .null, .null, .int x3, .int x4, .int x5] [] μ') :
    J l mX11_feed (jZ0 1 G (pI φ)) G 0 0 26 [.ref 0, .null, .int x2, .int x3, .int x4, .int x5] [] μ := by
  refine j_aload_n dX11_feed_26 rfl rfl ?_
  refine j_getR (ci := 11) (N := 9) (f := 0) (T := TX11) 1 dX11_feed_27 rfl (hG 0 (16, 9) rfl) rfl (by decide) fl_X11_10 rfl (hP 0 0 1 rfl) ?_
  refine j_iload_n dX11_feed_30 rfl rfl ?_
  refine j_cV (as := [.int x2]) (rest := []) dX11_feed_31 rfl vw_X11_88 (hG 1 (11, 2) rfl) rfl ⟨Nat.le_of_ble_eq_true rfl, Nat.le_of_ble_eq_true rfl⟩ rfl rfl (fun _ _ => Nat.le_of_ble_eq_true rfl) (e0 ) (fun r μ' hr => ?_)
  obtain ⟨rfl, hr⟩ := hr
  refine j_forget (ls' := [.ref 0, .null, .null, .int x3, .int x4, .int x5]) ⟨Or.inr rfl, Or.inr rfl, Or.inl rfl, Or.inr rfl, Or.inr rfl, Or.inr rfl, trivial⟩ ?_
  exact k0  μ' hr
theorem b_X11_feed_34 {l : Launch} {G : jG} {μ : jM} {φ : Int32 → jM → Prop} {x3 x4 x5 : Int32} {ψ0 : jM → Prop} (hG : gGG G) (hP : gPP μ) 
    (e0 : jC0 l mX6_add 0 G [.ref 1, .int x3] μ (pV ψ0)) 
    (k0 : ∀ μ', ψ0 μ' → J l mX11_feed (jZ0 1 G (pI φ)) G 0 0 42 [.ref 0, .null, .null, .null, .int x4, .int x5] [] μ') :
    J l mX11_feed (jZ0 1 G (pI φ)) G 0 0 34 [.ref 0, .null, .null, .int x3, .int x4, .int x5] [] μ := by
  refine j_aload_n dX11_feed_34 rfl rfl ?_
  refine j_getR (ci := 11) (N := 9) (f := 0) (T := TX11) 1 dX11_feed_35 rfl (hG 0 (16, 9) rfl) rfl (by decide) fl_X11_10 rfl (hP 0 0 1 rfl) ?_
  refine j_iload_n dX11_feed_38 rfl rfl ?_
  refine j_cV (as := [.int x3]) (rest := []) dX11_feed_39 rfl vw_X11_88 (hG 1 (11, 2) rfl) rfl ⟨Nat.le_of_ble_eq_true rfl, Nat.le_of_ble_eq_true rfl⟩ rfl rfl (fun _ _ => Nat.le_of_ble_eq_true rfl) (e0 ) (fun r μ' hr => ?_)
  obtain ⟨rfl, hr⟩ := hr
  refine j_forget (ls' := [.ref 0, .null, .null, .null, .int x4, .int x5]) ⟨Or.inr rfl, Or.inr rfl, Or.inr rfl, Or.inl rfl, Or.inr rfl, Or.inr rfl, trivial⟩ ?_
  exact k0  μ' hr
theorem b_X11_feed_42 {l : Launch} {G : jG} {μ : jM} {φ : Int32 → jM → Prop} {x4 x5 : Int32} {ψ0 : jM → Prop} (hG : gGG G) (hP : gPP μ) 
    (e0 : jC0 l mX6_add 0 G [.ref 1, .int x4] μ (pV ψ0)) 
    (k0 : ∀ μ', ψ0 μ' → J l mX11_feed (jZ0 1 G (pI φ)) G 0 0 51 [.ref 0, .null, .null, .null, .null, .int x5] [] μ') :
    J l mX11_feed (jZ0 1 G (pI φ)) G 0 0 42 [.ref 0, .null, .null, .null, .int x4, .int x5] [] μ := by
  refine j_aload_n dX11_feed_42 rfl rfl ?_
  refine j_getR (ci := 11) (N := 9) (f := 0) (T := TX11) 1 dX11_feed_43 rfl (hG 0 (16, 9) rfl) rfl (by decide) fl_X11_10 rfl (hP 0 0 1 rfl) ?_
  refine j_iload dX11_feed_46 rfl rfl ?_
  refine j_cV (as := [.int x4]) (rest := []) dX11_feed_48 rfl vw_X11_88 (hG 1 (11, 2) rfl) rfl ⟨Nat.le_of_ble_eq_true rfl, Nat.le_of_ble_eq_true rfl⟩ rfl rfl (fun _ _ => Nat.le_of_ble_eq_true rfl) (e0 ) (fun r μ' hr => ?_)
  obtain ⟨rfl, hr⟩ := hr
  refine j_forget (ls' := [.ref 0, .null, .null, .null, .null, .int x5]) ⟨Or.inr rfl, Or.inr rfl, Or.inr rfl, Or.inr rfl, Or.inl rfl, Or.inr rfl, trivial⟩ ?_
  exact k0  μ' hr
theorem b_X11_feed_51 {l : Launch} {G : jG} {μ : jM} {φ : Int32 → jM → Prop} {x5 : Int32} {ψ0 : jM → Prop} (hG : gGG G) (hP : gPP μ) 
    (e0 : jC0 l mX6_add 0 G [.ref 1, .int x5] μ (pV ψ0)) 
    (k0 : ∀ μ', ψ0 μ' → J l mX11_feed (jZ0 1 G (pI φ)) G 0 0 60 [.ref 0, .null, .null, .null, .null, .null] [] μ') :
    J l mX11_feed (jZ0 1 G (pI φ)) G 0 0 51 [.ref 0, .null, .null, .null, .null, .int x5] [] μ := by
  refine j_aload_n dX11_feed_51 rfl rfl ?_
  refine j_getR (ci := 11) (N := 9) (f := 0) (T := TX11) 1 dX11_feed_52 rfl (hG 0 (16, 9) rfl) rfl (by decide) fl_X11_10 rfl (hP 0 0 1 rfl) ?_
  refine j_iload dX11_feed_55 rfl rfl ?_
  refine j_cV (as := [.int x5]) (rest := []) dX11_feed_57 rfl vw_X11_88 (hG 1 (11, 2) rfl) rfl ⟨Nat.le_of_ble_eq_true rfl, Nat.le_of_ble_eq_true rfl⟩ rfl rfl (fun _ _ => Nat.le_of_ble_eq_true rfl) (e0 ) (fun r μ' hr => ?_)
  obtain ⟨rfl, hr⟩ := hr
  refine j_forget (ls' := [.ref 0, .null, .null, .null, .null, .null]) ⟨Or.inr rfl, Or.inr rfl, Or.inr rfl, Or.inr rfl, Or.inr rfl, Or.inl rfl, trivial⟩ ?_
  exact k0  μ' hr
theorem b_X11_feed_60 {l : Launch} {G : jG} {μ : jM} {φ : Int32 → jM → Prop} (hG : gGG G) (hP : gPP μ) 
    (k0 : φ (μ.1 1 1) μ) :
    J l mX11_feed (jZ0 1 G (pI φ)) G 0 0 60 [.ref 0, .null, .null, .null, .null, .null] [] μ := by
  refine j_aload_n dX11_feed_60 rfl rfl ?_
  refine j_getR (ci := 11) (N := 9) (f := 0) (T := TX11) 1 dX11_feed_61 rfl (hG 0 (16, 9) rfl) rfl (by decide) fl_X11_10 rfl (hP 0 0 1 rfl) ?_
  refine j_getI (ci := 6) (N := 2) (f := 1) (T := TX6) dX11_feed_64 rfl (hG 1 (11, 2) rfl) rfl (by decide) fl_X11_85 rfl ?_
  exact j_iret dX11_feed_67 rfl (k0 )
theorem b_X11_back_0 {l : Launch} {G : jG} {μ : jM} {φ : Int32 → jM → Prop} {x1 : Int32} (hG : gGG G) (hP : gPP μ) 
    (k0 : (x1 < (0 : Int32)) → φ (-1) μ) 
    (k1 : (¬ (x1 < (0 : Int32))) → (x1 ≤ ((μ.1 1 1) : Int32)) → φ ((μ.1 1 1) - x1) (wI μ 1 1 ((μ.1 1 1) - x1))) 
    (k2 : (¬ (x1 < (0 : Int32))) → (¬ (x1 ≤ ((μ.1 1 1) : Int32))) → φ (-1) μ) :
    J l mX11_back (jZ0 0 G (pI φ)) G 0 0 0 [.ref 0, .int x1] [] μ := by
  refine j_iload_n dX11_back_0 rfl rfl ?_
  refine j_if_lt 15 dX11_back_1 rfl (by decide) (fun c0 => ?_) (fun c0 => ?_)
  · skip
    refine j_iconst (-1) dX11_back_15 rfl (by decide) ?_
    exact j_iret dX11_back_16 rfl (k0 c0)
  · skip
    refine j_iload_n dX11_back_4 rfl rfl ?_
    refine j_aload_n dX11_back_5 rfl rfl ?_
    refine j_getR (ci := 11) (N := 9) (f := 0) (T := TX11) 1 dX11_back_6 rfl (hG 0 (16, 9) rfl) rfl (by decide) fl_X11_10 rfl (hP 0 0 1 rfl) ?_
    refine j_getI (ci := 6) (N := 2) (f := 1) (T := TX6) dX11_back_9 rfl (hG 1 (11, 2) rfl) rfl (by decide) fl_X11_85 rfl ?_
    refine j_icmp_le 17 dX11_back_12 rfl (by decide) (fun c1 => ?_) (fun c1 => ?_)
    · skip
      refine j_aload_n dX11_back_17 rfl rfl ?_
      refine j_getR (ci := 11) (N := 9) (f := 0) (T := TX11) 1 dX11_back_18 rfl (hG 0 (16, 9) rfl) rfl (by decide) fl_X11_10 rfl (hP 0 0 1 rfl) ?_
      refine j_dup dX11_back_21 rfl (fun _ _ => rfl) ?_
      refine j_getI (ci := 6) (N := 2) (f := 1) (T := TX6) dX11_back_22 rfl (hG 1 (11, 2) rfl) rfl (by decide) fl_X11_85 rfl ?_
      refine j_iload_n dX11_back_25 rfl rfl ?_
      refine j_isub dX11_back_26 rfl ?_
      refine j_putI (ci := 6) (N := 2) (f := 1) (T := TX6) dX11_back_27 rfl (hG 1 (11, 2) rfl) rfl (by decide) fl_X11_85 rfl rfl ?_
      refine j_aload_n dX11_back_30 rfl rfl ?_
      refine j_getR (ci := 11) (N := 9) (f := 0) (T := TX11) 1 dX11_back_31 rfl (hG 0 (16, 9) rfl) rfl (by decide) fl_X11_10 rfl (hP 0 0 1 rfl) ?_
      refine j_getI (ci := 6) (N := 2) (f := 1) (T := TX6) dX11_back_34 rfl (hG 1 (11, 2) rfl) rfl (by decide) fl_X11_85 rfl ?_
      exact j_iret dX11_back_37 rfl (k1 c0 c1)
    · skip
      refine j_iconst (-1) dX11_back_15 rfl (by decide) ?_
      exact j_iret dX11_back_16 rfl (k2 c0 c1)
theorem b_X11_read_0 {l : Launch} {G : jG} {μ : jM} {φ : Int32 → jM → Prop} {ψ0 : Int32 → jM → Prop} {dr : Nat} (hG : gGG G) (hP : gPP μ) (hdr : tO gTold pTold G μ dr) (q0_7 : μ.2.2 0 7 = some dr) 
    (e0 : jC0 l mX4_readInto 6 G [.ref 3, .ref dr, .ref 1] μ (pI ψ0)) 
    (k0 : ∀ v μ', ψ0 v μ' → J l mX11_read (jZ0 7 G (pI φ)) G 0 0 15 [.ref 0, .null, .null] [.int v] μ') :
    J l mX11_read (jZ0 7 G (pI φ)) G 0 0 0 [.ref 0, .null, .null] [] μ := by
  refine j_aload_n dX11_read_0 rfl rfl ?_
  refine j_getR (ci := 11) (N := 9) (f := 1) (T := TX11) 3 dX11_read_1 rfl (hG 0 (16, 9) rfl) rfl (by decide) fl_X11_19 rfl (hP 0 1 3 rfl) ?_
  refine j_aload_n dX11_read_4 rfl rfl ?_
  refine j_getR (ci := 11) (N := 9) (f := 7) (T := TX11) dr dX11_read_5 rfl (hG 0 (16, 9) rfl) rfl (by decide) fl_X11_65 rfl q0_7 ?_
  refine j_aload_n dX11_read_8 rfl rfl ?_
  refine j_getR (ci := 11) (N := 9) (f := 0) (T := TX11) 1 dX11_read_9 rfl (hG 0 (16, 9) rfl) rfl (by decide) fl_X11_10 rfl (hP 0 0 1 rfl) ?_
  refine j_cV (as := [.ref dr, .ref 1]) (rest := []) dX11_read_12 rfl vw_X11_92 (hG 3 (9, 13) rfl) rfl ⟨Nat.le_of_ble_eq_true rfl, Nat.le_of_ble_eq_true rfl⟩ rfl rfl (fun _ _ => Nat.le_of_ble_eq_true rfl) (e0 ) (fun r μ' hr => ?_)
  obtain ⟨v, rfl, hr⟩ := hr
  exact k0  v μ' hr
theorem b_X11_read_15 {l : Launch} {G : jG} {μ : jM} {φ : Int32 → jM → Prop} {z0 : Int32} {ψ1 : jM → Prop} {dr t : Nat} (hG : gGG G) (hP : gPP μ) (hdr : tO gTold pTold G μ dr) (ht : tO gTold pTold G μ t) (q0_7 : μ.2.2 0 7 = some dr) (q12_0 : μ.2.2 12 0 = some t) 
    (k0 : (¬ z0 = (0 : Int32)) → φ z0 (wI (wI μ 0 8 (μ.1 3 0)) 1 1 0)) 
    (e1 : (z0 = (0 : Int32)) → jC0 l mX10_begin 0 G [.ref 12, .ref dr] (wI (wI μ 0 8 (μ.1 3 0)) 1 1 0) (pV ψ1)) 
    (k1 : (z0 = (0 : Int32)) → ∀ μ', ψ1 μ' → J l mX11_read (jZ0 7 G (pI φ)) G 0 0 58 [.ref 0, .int z0, .ref t] [] μ') :
    J l mX11_read (jZ0 7 G (pI φ)) G 0 0 15 [.ref 0, .null, .null] [.int z0] μ := by
  refine j_istore_n (ls' := [.ref 0, .int z0, .null]) dX11_read_15 rfl rfl (Nat.le_of_ble_eq_true rfl) rfl ?_
  refine j_aload_n dX11_read_16 rfl rfl ?_
  refine j_aload_n dX11_read_17 rfl rfl ?_
  refine j_getR (ci := 11) (N := 9) (f := 1) (T := TX11) 3 dX11_read_18 rfl (hG 0 (16, 9) rfl) rfl (by decide) fl_X11_19 rfl (hP 0 1 3 rfl) ?_
  refine j_getI (ci := 4) (N := 13) (f := 0) (T := TX4) dX11_read_21 rfl (hG 3 (9, 13) rfl) rfl (by decide) fl_X11_96 rfl ?_
  refine j_putI (ci := 11) (N := 9) (f := 8) (T := TX11) dX11_read_24 rfl (hG 0 (16, 9) rfl) rfl (by decide) fl_X11_69 rfl rfl ?_
  refine j_aload_n dX11_read_27 rfl rfl ?_
  refine j_getR (ci := 11) (N := 9) (f := 0) (T := TX11) 1 dX11_read_28 rfl (hG 0 (16, 9) rfl) rfl (by decide) fl_X11_10 rfl (hP 0 0 1 rfl) ?_
  refine j_iconst 0 dX11_read_31 rfl (by decide) ?_
  refine j_putI (ci := 6) (N := 2) (f := 1) (T := TX6) dX11_read_32 rfl (hG 1 (11, 2) rfl) rfl (by decide) fl_X11_85 rfl rfl ?_
  refine j_iload_n dX11_read_35 rfl rfl ?_
  refine j_if_ne 95 dX11_read_36 rfl (by decide) (fun c0 => ?_) (fun c0 => ?_)
  · skip
    refine j_iload_n dX11_read_95 rfl rfl ?_
    exact j_iret dX11_read_96 rfl (k0 c0)
  · skip
    refine j_aload_n dX11_read_39 rfl rfl ?_
    refine j_getR (ci := 11) (N := 9) (f := 2) (T := TX11) 12 dX11_read_40 rfl (hG 0 (16, 9) rfl) rfl (by decide) fl_X11_26 rfl (hP 0 2 12 rfl) ?_
    refine j_getR (ci := 10) (N := 11) (f := 0) (T := TX10) t dX11_read_43 rfl (hG 12 (15, 11) rfl) rfl (by decide) fl_X11_97 rfl q12_0 ?_
    refine j_astore_n (ls' := [.ref 0, .int z0, .ref t]) dX11_read_46 rfl rfl (Nat.le_of_ble_eq_true rfl) rfl ?_
    refine j_aload_n dX11_read_47 rfl rfl ?_
    refine j_getR (ci := 11) (N := 9) (f := 2) (T := TX11) 12 dX11_read_48 rfl (hG 0 (16, 9) rfl) rfl (by decide) fl_X11_26 rfl (hP 0 2 12 rfl) ?_
    refine j_aload_n dX11_read_51 rfl rfl ?_
    refine j_getR (ci := 11) (N := 9) (f := 7) (T := TX11) dr dX11_read_52 rfl (hG 0 (16, 9) rfl) rfl (by decide) fl_X11_65 rfl q0_7 ?_
    refine j_cV (as := [.ref dr]) (rest := []) dX11_read_55 rfl vw_X11_76 (hG 12 (15, 11) rfl) rfl ⟨Nat.le_of_ble_eq_true rfl, Nat.le_of_ble_eq_true rfl⟩ rfl rfl (fun _ _ => Nat.le_of_ble_eq_true rfl) (e1 c0) (fun r μ' hr => ?_)
    obtain ⟨rfl, hr⟩ := hr
    exact k1 c0 μ' hr
theorem b_X11_read_58 {l : Launch} {G : jG} {μ : jM} {φ : Int32 → jM → Prop} {x1 : Int32} {ψ0 : jM → Prop} {dr t : Nat} (hG : gGG G) (hP : gPP μ) (hdr : tO gTold pTold G μ dr) (ht : tO gTold pTold G μ t) (q0_7 : μ.2.2 0 7 = some dr) 
    (e0 : jC0 l mX5_begin 1 G [.ref 52, .ref dr] μ (pV ψ0)) 
    (k0 : ∀ μ', ψ0 μ' → J l mX11_read (jZ0 7 G (pI φ)) G 0 0 69 [.ref 0, .int x1, .ref t] [] μ') :
    J l mX11_read (jZ0 7 G (pI φ)) G 0 0 58 [.ref 0, .int x1, .ref t] [] μ := by
  refine j_aload_n dX11_read_58 rfl rfl ?_
  refine j_getR (ci := 11) (N := 9) (f := 3) (T := TX11) 52 dX11_read_59 rfl (hG 0 (16, 9) rfl) rfl (by decide) fl_X11_33 rfl (hP 0 3 52 rfl) ?_
  refine j_aload_n dX11_read_62 rfl rfl ?_
  refine j_getR (ci := 11) (N := 9) (f := 7) (T := TX11) dr dX11_read_63 rfl (hG 0 (16, 9) rfl) rfl (by decide) fl_X11_65 rfl q0_7 ?_
  refine j_cV (as := [.ref dr]) (rest := []) dX11_read_66 rfl vw_X11_80 (hG 52 (10, 1) rfl) rfl ⟨Nat.le_of_ble_eq_true rfl, Nat.le_of_ble_eq_true rfl⟩ rfl rfl (fun _ _ => Nat.le_of_ble_eq_true rfl) (e0 ) (fun r μ' hr => ?_)
  obtain ⟨rfl, hr⟩ := hr
  exact k0  μ' hr
theorem b_X11_read_69 {l : Launch} {G : jG} {μ : jM} {φ : Int32 → jM → Prop} {x1 : Int32} {t : Nat} (hG : gGG G) (hP : gPP μ) (ht : tO gTold pTold G μ t) 
    (k0 : J l mX11_read (jZ0 7 G (pI φ)) G 0 0 74 [.ref 0, .int x1, .null] [] (wP μ 0 7 (some t))) :
    J l mX11_read (jZ0 7 G (pI φ)) G 0 0 69 [.ref 0, .int x1, .ref t] [] μ := by
  refine j_aload_n dX11_read_69 rfl rfl ?_
  refine j_aload_n dX11_read_70 rfl rfl ?_
  refine j_putR (ci := 11) (N := 9) (f := 7) (T := TX11) dX11_read_71 rfl (hG 0 (16, 9) rfl) rfl (by decide) fl_X11_65 rfl rfl ?_
  refine j_forget (ls' := [.ref 0, .int x1, .null]) ⟨Or.inr rfl, Or.inr rfl, Or.inl rfl, trivial⟩ ?_
  exact k0 
theorem b_X11_read_74 {l : Launch} {G : jG} {μ : jM} {φ : Int32 → jM → Prop} {x1 : Int32} {ψ0 : jM → Prop} (hG : gGG G) (hP : gPP μ) 
    (e0 : jC0 l mX3_clear 0 G [.ref 54] μ (pV ψ0)) 
    (k0 : ∀ μ', ψ0 μ' → J l mX11_read (jZ0 7 G (pI φ)) G 0 0 81 [.ref 0, .int x1, .null] [] μ') :
    J l mX11_read (jZ0 7 G (pI φ)) G 0 0 74 [.ref 0, .int x1, .null] [] μ := by
  refine j_aload_n dX11_read_74 rfl rfl ?_
  refine j_getR (ci := 11) (N := 9) (f := 4) (T := TX11) 54 dX11_read_75 rfl (hG 0 (16, 9) rfl) rfl (by decide) fl_X11_40 rfl (hP 0 4 54 rfl) ?_
  refine j_cV (as := []) (rest := []) dX11_read_78 rfl vw_X11_100 (hG 54 (8, 5) rfl) rfl ⟨Nat.le_of_ble_eq_true rfl, Nat.le_of_ble_eq_true rfl⟩ rfl rfl (fun _ _ => Nat.le_of_ble_eq_true rfl) (e0 ) (fun r μ' hr => ?_)
  obtain ⟨rfl, hr⟩ := hr
  exact k0  μ' hr
theorem b_X11_read_81 {l : Launch} {G : jG} {μ : jM} {φ : Int32 → jM → Prop} {x1 : Int32} {ψ0 : jM → Prop} (hG : gGG G) (hP : gPP μ) 
    (e0 : jC0 l mX0_clear 0 G [.ref 63] μ (pV ψ0)) 
    (k0 : ∀ μ', ψ0 μ' → J l mX11_read (jZ0 7 G (pI φ)) G 0 0 88 [.ref 0, .int x1, .null] [] μ') :
    J l mX11_read (jZ0 7 G (pI φ)) G 0 0 81 [.ref 0, .int x1, .null] [] μ := by
  refine j_aload_n dX11_read_81 rfl rfl ?_
  refine j_getR (ci := 11) (N := 9) (f := 6) (T := TX11) 63 dX11_read_82 rfl (hG 0 (16, 9) rfl) rfl (by decide) fl_X11_58 rfl (hP 0 6 63 rfl) ?_
  refine j_cV (as := []) (rest := []) dX11_read_85 rfl vw_X11_101 (hG 63 (5, 10) rfl) rfl ⟨Nat.le_of_ble_eq_true rfl, Nat.le_of_ble_eq_true rfl⟩ rfl rfl (fun _ _ => Nat.le_of_ble_eq_true rfl) (e0 ) (fun r μ' hr => ?_)
  obtain ⟨rfl, hr⟩ := hr
  exact k0  μ' hr
theorem b_X11_read_88 {l : Launch} {G : jG} {μ : jM} {φ : Int32 → jM → Prop} {x1 : Int32} {ψ0 : jM → Prop} (hG : gGG G) (hP : gPP μ) 
    (e0 : jC0 l mX1_outdate 0 G [.ref 57] μ (pV ψ0)) 
    (k0 : ∀ μ', ψ0 μ' → J l mX11_read (jZ0 7 G (pI φ)) G 0 0 95 [.null, .int x1, .null] [] μ') :
    J l mX11_read (jZ0 7 G (pI φ)) G 0 0 88 [.ref 0, .int x1, .null] [] μ := by
  refine j_aload_n dX11_read_88 rfl rfl ?_
  refine j_getR (ci := 11) (N := 9) (f := 5) (T := TX11) 57 dX11_read_89 rfl (hG 0 (16, 9) rfl) rfl (by decide) fl_X11_49 rfl (hP 0 5 57 rfl) ?_
  refine j_cV (as := []) (rest := []) dX11_read_92 rfl vw_X11_102 (hG 57 (6, 9) rfl) rfl ⟨Nat.le_of_ble_eq_true rfl, Nat.le_of_ble_eq_true rfl⟩ rfl rfl (fun _ _ => Nat.le_of_ble_eq_true rfl) (e0 ) (fun r μ' hr => ?_)
  obtain ⟨rfl, hr⟩ := hr
  refine j_forget (ls' := [.null, .int x1, .null]) ⟨Or.inl rfl, Or.inr rfl, Or.inr rfl, trivial⟩ ?_
  exact k0  μ' hr
theorem b_X11_read_95 {l : Launch} {G : jG} {μ : jM} {φ : Int32 → jM → Prop} {x1 : Int32} (hG : gGG G) (hP : gPP μ) 
    (k0 : φ x1 μ) :
    J l mX11_read (jZ0 7 G (pI φ)) G 0 0 95 [.null, .int x1, .null] [] μ := by
  refine j_iload_n dX11_read_95 rfl rfl ?_
  exact j_iret dX11_read_96 rfl (k0 )
theorem b_X11_place_0 {l : Launch} {G : jG} {μ : jM} {φ : Int32 → jM → Prop} (hG : gGG G) (hP : gPP μ) 
    (k0 : φ (μ.1 0 8) μ) :
    J l mX11_place (jZ0 0 G (pI φ)) G 0 0 0 [.ref 0] [] μ := by
  refine j_aload_n dX11_place_0 rfl rfl ?_
  refine j_getI (ci := 11) (N := 9) (f := 8) (T := TX11) dX11_place_1 rfl (hG 0 (16, 9) rfl) rfl (by decide) fl_X11_69 rfl ?_
  exact j_iret dX11_place_4 rfl (k0 )
theorem b_X11_road_0 {l : Launch} {G : jG} {μ : jM} {φ : Int32 → jM → Prop} {x1 x2 : Int32} {ψ0 : Int32 → jM → Prop} (hG : gGG G) (hP : gPP μ) 
    (e0 : jC0 l mX11_isRoad 0 G [.ref 0, .int x1] μ (pI ψ0)) 
    (k0 : ∀ v μ', ψ0 v μ' → J l mX11_road (jZ0 4 G (pI φ)) G 0 0 5 [.ref 0, .int x1, .int x2, .null] [.int v] μ') :
    J l mX11_road (jZ0 4 G (pI φ)) G 0 0 0 [.ref 0, .int x1, .int x2, .null] [] μ := by
  refine j_aload_n dX11_road_0 rfl rfl ?_
  refine j_iload_n dX11_road_1 rfl rfl ?_
  refine j_cV (as := [.int x1]) (rest := []) dX11_road_2 rfl vw_X11_105 (hG 0 (16, 9) rfl) rfl ⟨Nat.le_of_ble_eq_true rfl, Nat.le_of_ble_eq_true rfl⟩ rfl rfl (fun _ _ => Nat.le_of_ble_eq_true rfl) (e0 ) (fun r μ' hr => ?_)
  obtain ⟨v, rfl, hr⟩ := hr
  exact k0  v μ' hr
theorem b_X11_road_5 {l : Launch} {G : jG} {μ : jM} {φ : Int32 → jM → Prop} {x1 x2 z0 : Int32} {ψ6 : jM → Prop} {t : Nat} (hG : gGG G) (hP : gPP μ) (ht : tO gTold pTold G μ t) (q12_0 : μ.2.2 12 0 = some t) 
    (o0 : (¬ z0 = (0 : Int32)) → (x2 = (0 : Int32)) → vp_in x1 12) 
    (k0 : (¬ z0 = (0 : Int32)) → (x2 = (0 : Int32)) → φ (μ.1 (t + 1) (Int32.toNatClampNeg x1)) μ) 
    (o1 : (¬ z0 = (0 : Int32)) → (¬ x2 = (0 : Int32)) → (x2 = (1 : Int32)) → vp_in x1 12) 
    (k1 : (¬ z0 = (0 : Int32)) → (¬ x2 = (0 : Int32)) → (x2 = (1 : Int32)) → φ (μ.1 (t + 2) (Int32.toNatClampNeg x1)) μ) 
    (o2 : (¬ z0 = (0 : Int32)) → (¬ x2 = (0 : Int32)) → (¬ x2 = (1 : Int32)) → (x2 = (2 : Int32)) → vp_in x1 12) 
    (k2 : (¬ z0 = (0 : Int32)) → (¬ x2 = (0 : Int32)) → (¬ x2 = (1 : Int32)) → (x2 = (2 : Int32)) → φ (μ.1 (t + 3) (Int32.toNatClampNeg x1)) μ) 
    (k3 : (¬ z0 = (0 : Int32)) → (¬ x2 = (0 : Int32)) → (¬ x2 = (1 : Int32)) → (¬ x2 = (2 : Int32)) → (x2 = (3 : Int32)) → φ (((μ.1 t 6) >>> (x1 &&& 31)) &&& 1) μ) 
    (k4 : (¬ z0 = (0 : Int32)) → (¬ x2 = (0 : Int32)) → (¬ x2 = (1 : Int32)) → (¬ x2 = (2 : Int32)) → (¬ x2 = (3 : Int32)) → (x2 = (4 : Int32)) → φ (((μ.1 53 4) >>> (x1 &&& 31)) &&& 1) μ) 
    (o3 : (¬ z0 = (0 : Int32)) → (¬ x2 = (0 : Int32)) → (¬ x2 = (1 : Int32)) → (¬ x2 = (2 : Int32)) → (¬ x2 = (3 : Int32)) → (¬ x2 = (4 : Int32)) → (x2 = (5 : Int32)) → vp_in (7 + x1) 71) 
    (k5 : (¬ z0 = (0 : Int32)) → (¬ x2 = (0 : Int32)) → (¬ x2 = (1 : Int32)) → (¬ x2 = (2 : Int32)) → (¬ x2 = (3 : Int32)) → (¬ x2 = (4 : Int32)) → (x2 = (5 : Int32)) → φ (μ.1 53 (Int32.toNatClampNeg (7 + x1))) μ) 
    (e6 : (¬ z0 = (0 : Int32)) → (¬ x2 = (0 : Int32)) → (¬ x2 = (1 : Int32)) → (¬ x2 = (2 : Int32)) → (¬ x2 = (3 : Int32)) → (¬ x2 = (4 : Int32)) → (¬ x2 = (5 : Int32)) → (x2 = (6 : Int32)) → jC0 l mX10_enter 3 G [.ref 12, .ref 52] μ (pV ψ6)) 
    (k6 : (¬ z0 = (0 : Int32)) → (¬ x2 = (0 : Int32)) → (¬ x2 = (1 : Int32)) → (¬ x2 = (2 : Int32)) → (¬ x2 = (3 : Int32)) → (¬ x2 = (4 : Int32)) → (¬ x2 = (5 : Int32)) → (x2 = (6 : Int32)) → ∀ μ', ψ6 μ' → J l mX11_road (jZ0 4 G (pI φ)) G 0 0 136 [.ref 0, .int x1, .null, .null] [] μ') 
    (o4 : (¬ z0 = (0 : Int32)) → (¬ x2 = (0 : Int32)) → (¬ x2 = (1 : Int32)) → (¬ x2 = (2 : Int32)) → (¬ x2 = (3 : Int32)) → (¬ x2 = (4 : Int32)) → (¬ x2 = (5 : Int32)) → (¬ x2 = (6 : Int32)) → (x2 = (7 : Int32)) → vp_in (19 + x1) 71) 
    (k7 : (¬ z0 = (0 : Int32)) → (¬ x2 = (0 : Int32)) → (¬ x2 = (1 : Int32)) → (¬ x2 = (2 : Int32)) → (¬ x2 = (3 : Int32)) → (¬ x2 = (4 : Int32)) → (¬ x2 = (5 : Int32)) → (¬ x2 = (6 : Int32)) → (x2 = (7 : Int32)) → φ (μ.1 53 (Int32.toNatClampNeg (19 + x1))) μ) 
    (o5 : (¬ z0 = (0 : Int32)) → (¬ x2 = (0 : Int32)) → (¬ x2 = (1 : Int32)) → (¬ x2 = (2 : Int32)) → (¬ x2 = (3 : Int32)) → (¬ x2 = (4 : Int32)) → (¬ x2 = (5 : Int32)) → (¬ x2 = (6 : Int32)) → (¬ x2 = (7 : Int32)) → (x2 = (8 : Int32)) → vp_in (31 + x1) 71) 
    (k8 : (¬ z0 = (0 : Int32)) → (¬ x2 = (0 : Int32)) → (¬ x2 = (1 : Int32)) → (¬ x2 = (2 : Int32)) → (¬ x2 = (3 : Int32)) → (¬ x2 = (4 : Int32)) → (¬ x2 = (5 : Int32)) → (¬ x2 = (6 : Int32)) → (¬ x2 = (7 : Int32)) → (x2 = (8 : Int32)) → φ (μ.1 53 (Int32.toNatClampNeg (31 + x1))) μ) 
    (k9 : (¬ z0 = (0 : Int32)) → (¬ x2 = (0 : Int32)) → (¬ x2 = (1 : Int32)) → (¬ x2 = (2 : Int32)) → (¬ x2 = (3 : Int32)) → (¬ x2 = (4 : Int32)) → (¬ x2 = (5 : Int32)) → (¬ x2 = (6 : Int32)) → (¬ x2 = (7 : Int32)) → (¬ x2 = (8 : Int32)) → φ (-1) μ) 
    (k10 : (z0 = (0 : Int32)) → φ (-1) μ) :
    J l mX11_road (jZ0 4 G (pI φ)) G 0 0 5 [.ref 0, .int x1, .int x2, .null] [.int z0] μ := by
  refine j_if_ne 10 dX11_road_5 rfl (by decide) (fun c0 => ?_) (fun c0 => ?_)
  · skip
    refine j_aload_n dX11_road_10 rfl rfl ?_
    refine j_getR (ci := 11) (N := 9) (f := 2) (T := TX11) 12 dX11_road_11 rfl (hG 0 (16, 9) rfl) rfl (by decide) fl_X11_26 rfl (hP 0 2 12 rfl) ?_
    refine j_getR (ci := 10) (N := 11) (f := 0) (T := TX10) t dX11_road_14 rfl (hG 12 (15, 11) rfl) rfl (by decide) fl_X11_97 rfl q12_0 ?_
    refine j_astore_n (ls' := [.ref 0, .int x1, .int x2, .ref t]) dX11_road_17 rfl rfl (Nat.le_of_ble_eq_true rfl) rfl ?_
    refine j_iload_n dX11_road_18 rfl rfl ?_
    by_cases c1 : x2 = (0 : Int32)
    · skip
      refine j_tableIn (off := 49) 68 dX11_road_19 (sw_1 c1 (by decide)) (sw_2 c1 (by decide)) (sw_3 c1 (by decide)) (by decide) ?_
      refine j_aload_n dX11_road_68 rfl rfl ?_
      refine j_getR (ci := 8) (N := 20) (f := 3) (T := TX8) (t + 1) dX11_road_69 rfl (ht.1 0 (13, 20) rfl) rfl (by decide) fl_X11_109 rfl (ht.2 0 3 1 rfl) ?_
      refine j_iload_n dX11_road_72 rfl rfl ?_
      refine j_iald' (j := (Int32.toNatClampNeg x1)) dX11_road_73 rfl (ht.1 1 (0, 12) rfl) (o0 c0 c1) rfl ?_
      exact j_iret dX11_road_74 rfl (k0 c0 c1)
    by_cases c2 : x2 = (1 : Int32)
    · skip
      refine j_tableIn (off := 56) 75 dX11_road_19 (sw_1 c2 (by decide)) (sw_2 c2 (by decide)) (sw_3 c2 (by decide)) (by decide) ?_
      refine j_aload_n dX11_road_75 rfl rfl ?_
      refine j_getR (ci := 8) (N := 20) (f := 4) (T := TX8) (t + 2) dX11_road_76 rfl (ht.1 0 (13, 20) rfl) rfl (by decide) fl_X11_113 rfl (ht.2 0 4 2 rfl) ?_
      refine j_iload_n dX11_road_79 rfl rfl ?_
      refine j_iald' (j := (Int32.toNatClampNeg x1)) dX11_road_80 rfl (ht.1 2 (0, 12) rfl) (o1 c0 c1 c2) rfl ?_
      exact j_iret dX11_road_81 rfl (k1 c0 c1 c2)
    by_cases c3 : x2 = (2 : Int32)
    · skip
      refine j_tableIn (off := 63) 82 dX11_road_19 (sw_1 c3 (by decide)) (sw_2 c3 (by decide)) (sw_3 c3 (by decide)) (by decide) ?_
      refine j_aload_n dX11_road_82 rfl rfl ?_
      refine j_getR (ci := 8) (N := 20) (f := 5) (T := TX8) (t + 3) dX11_road_83 rfl (ht.1 0 (13, 20) rfl) rfl (by decide) fl_X11_116 rfl (ht.2 0 5 3 rfl) ?_
      refine j_iload_n dX11_road_86 rfl rfl ?_
      refine j_iald' (j := (Int32.toNatClampNeg x1)) dX11_road_87 rfl (ht.1 3 (0, 12) rfl) (o2 c0 c1 c2 c3) rfl ?_
      exact j_iret dX11_road_88 rfl (k2 c0 c1 c2 c3)
    by_cases c4 : x2 = (3 : Int32)
    · skip
      refine j_tableIn (off := 70) 89 dX11_road_19 (sw_1 c4 (by decide)) (sw_2 c4 (by decide)) (sw_3 c4 (by decide)) (by decide) ?_
      refine j_aload_n dX11_road_89 rfl rfl ?_
      refine j_getI (ci := 8) (N := 20) (f := 6) (T := TX8) dX11_road_90 rfl (ht.1 0 (13, 20) rfl) rfl (by decide) fl_X11_119 rfl ?_
      refine j_iload_n dX11_road_93 rfl rfl ?_
      refine j_ishr dX11_road_94 rfl ?_
      refine j_iconst 1 dX11_road_95 rfl (by decide) ?_
      refine j_iand dX11_road_96 rfl ?_
      exact j_iret dX11_road_97 rfl (k3 c0 c1 c2 c3 c4)
    by_cases c5 : x2 = (4 : Int32)
    · skip
      refine j_tableIn (off := 79) 98 dX11_road_19 (sw_1 c5 (by decide)) (sw_2 c5 (by decide)) (sw_3 c5 (by decide)) (by decide) ?_
      refine j_aload_n dX11_road_98 rfl rfl ?_
      refine j_getR (ci := 11) (N := 9) (f := 3) (T := TX11) 52 dX11_road_99 rfl (hG 0 (16, 9) rfl) rfl (by decide) fl_X11_33 rfl (hP 0 3 52 rfl) ?_
      refine j_getR (ci := 5) (N := 1) (f := 0) (T := TX5) 53 dX11_road_102 rfl (hG 52 (10, 1) rfl) rfl (by decide) fl_X11_122 rfl (hP 52 0 53 rfl) ?_
      refine j_iconst 4 dX11_road_105 rfl (by decide) ?_
      refine j_iald' (j := 4) dX11_road_106 rfl (hG 53 (0, 71) rfl) (vpK (by decide)) (by decide) ?_
      refine j_iload_n dX11_road_107 rfl rfl ?_
      refine j_ishr dX11_road_108 rfl ?_
      refine j_iconst 1 dX11_road_109 rfl (by decide) ?_
      refine j_iand dX11_road_110 rfl ?_
      exact j_iret dX11_road_111 rfl (k4 c0 c1 c2 c3 c4 c5)
    by_cases c6 : x2 = (5 : Int32)
    · skip
      refine j_tableIn (off := 93) 112 dX11_road_19 (sw_1 c6 (by decide)) (sw_2 c6 (by decide)) (sw_3 c6 (by decide)) (by decide) ?_
      refine j_aload_n dX11_road_112 rfl rfl ?_
      refine j_getR (ci := 11) (N := 9) (f := 3) (T := TX11) 52 dX11_road_113 rfl (hG 0 (16, 9) rfl) rfl (by decide) fl_X11_33 rfl (hP 0 3 52 rfl) ?_
      refine j_getR (ci := 5) (N := 1) (f := 0) (T := TX5) 53 dX11_road_116 rfl (hG 52 (10, 1) rfl) rfl (by decide) fl_X11_122 rfl (hP 52 0 53 rfl) ?_
      refine j_bipush 7 dX11_road_119 rfl (by decide) ?_
      refine j_iload_n dX11_road_121 rfl rfl ?_
      refine j_iadd dX11_road_122 rfl ?_
      refine j_iald' (j := (Int32.toNatClampNeg (7 + x1))) dX11_road_123 rfl (hG 53 (0, 71) rfl) (o3 c0 c1 c2 c3 c4 c5 c6) rfl ?_
      exact j_iret dX11_road_124 rfl (k5 c0 c1 c2 c3 c4 c5 c6)
    by_cases c7 : x2 = (6 : Int32)
    · skip
      refine j_tableIn (off := 106) 125 dX11_road_19 (sw_1 c7 (by decide)) (sw_2 c7 (by decide)) (sw_3 c7 (by decide)) (by decide) ?_
      refine j_aload_n dX11_road_125 rfl rfl ?_
      refine j_getR (ci := 11) (N := 9) (f := 2) (T := TX11) 12 dX11_road_126 rfl (hG 0 (16, 9) rfl) rfl (by decide) fl_X11_26 rfl (hP 0 2 12 rfl) ?_
      refine j_aload_n dX11_road_129 rfl rfl ?_
      refine j_getR (ci := 11) (N := 9) (f := 3) (T := TX11) 52 dX11_road_130 rfl (hG 0 (16, 9) rfl) rfl (by decide) fl_X11_33 rfl (hP 0 3 52 rfl) ?_
      refine j_cV (as := [.ref 52]) (rest := []) dX11_road_133 rfl vw_X11_81 (hG 12 (15, 11) rfl) rfl ⟨Nat.le_of_ble_eq_true rfl, Nat.le_of_ble_eq_true rfl⟩ rfl rfl (fun _ _ => Nat.le_of_ble_eq_true rfl) (e6 c0 c1 c2 c3 c4 c5 c6 c7) (fun r μ' hr => ?_)
      obtain ⟨rfl, hr⟩ := hr
      refine j_forget (ls' := [.ref 0, .int x1, .null, .null]) ⟨Or.inr rfl, Or.inr rfl, Or.inl rfl, Or.inl rfl, trivial⟩ ?_
      exact k6 c0 c1 c2 c3 c4 c5 c6 c7 μ' hr
    by_cases c8 : x2 = (7 : Int32)
    · skip
      refine j_tableIn (off := 129) 148 dX11_road_19 (sw_1 c8 (by decide)) (sw_2 c8 (by decide)) (sw_3 c8 (by decide)) (by decide) ?_
      refine j_aload_n dX11_road_148 rfl rfl ?_
      refine j_getR (ci := 11) (N := 9) (f := 3) (T := TX11) 52 dX11_road_149 rfl (hG 0 (16, 9) rfl) rfl (by decide) fl_X11_33 rfl (hP 0 3 52 rfl) ?_
      refine j_getR (ci := 5) (N := 1) (f := 0) (T := TX5) 53 dX11_road_152 rfl (hG 52 (10, 1) rfl) rfl (by decide) fl_X11_122 rfl (hP 52 0 53 rfl) ?_
      refine j_bipush 19 dX11_road_155 rfl (by decide) ?_
      refine j_iload_n dX11_road_157 rfl rfl ?_
      refine j_iadd dX11_road_158 rfl ?_
      refine j_iald' (j := (Int32.toNatClampNeg (19 + x1))) dX11_road_159 rfl (hG 53 (0, 71) rfl) (o4 c0 c1 c2 c3 c4 c5 c6 c7 c8) rfl ?_
      exact j_iret dX11_road_160 rfl (k7 c0 c1 c2 c3 c4 c5 c6 c7 c8)
    by_cases c9 : x2 = (8 : Int32)
    · skip
      refine j_tableIn (off := 142) 161 dX11_road_19 (sw_1 c9 (by decide)) (sw_2 c9 (by decide)) (sw_3 c9 (by decide)) (by decide) ?_
      refine j_aload_n dX11_road_161 rfl rfl ?_
      refine j_getR (ci := 11) (N := 9) (f := 3) (T := TX11) 52 dX11_road_162 rfl (hG 0 (16, 9) rfl) rfl (by decide) fl_X11_33 rfl (hP 0 3 52 rfl) ?_
      refine j_getR (ci := 5) (N := 1) (f := 0) (T := TX5) 53 dX11_road_165 rfl (hG 52 (10, 1) rfl) rfl (by decide) fl_X11_122 rfl (hP 52 0 53 rfl) ?_
      refine j_bipush 31 dX11_road_168 rfl (by decide) ?_
      refine j_iload_n dX11_road_170 rfl rfl ?_
      refine j_iadd dX11_road_171 rfl ?_
      refine j_iald' (j := (Int32.toNatClampNeg (31 + x1))) dX11_road_172 rfl (hG 53 (0, 71) rfl) (o5 c0 c1 c2 c3 c4 c5 c6 c7 c8 c9) rfl ?_
      exact j_iret dX11_road_173 rfl (k8 c0 c1 c2 c3 c4 c5 c6 c7 c8 c9)
    refine j_tableOut 174 dX11_road_19 (sw_o [0, 1, 2, 3, 4, 5, 6, 7, 8] (by decide) ⟨c1, c2, c3, c4, c5, c6, c7, c8, c9, trivial⟩) (by decide) ?_
    refine j_iconst (-1) dX11_road_174 rfl (by decide) ?_
    exact j_iret dX11_road_175 rfl (k9 c0 c1 c2 c3 c4 c5 c6 c7 c8 c9)
  · skip
    refine j_iconst (-1) dX11_road_8 rfl (by decide) ?_
    exact j_iret dX11_road_9 rfl (k10 c0)
theorem b_X11_road_136 {l : Launch} {G : jG} {μ : jM} {φ : Int32 → jM → Prop} {x1 : Int32} (hG : gGG G) (hP : gPP μ) 
    (k0 : φ (((μ.1 12 4) >>> (x1 &&& 31)) &&& 1) μ) :
    J l mX11_road (jZ0 4 G (pI φ)) G 0 0 136 [.ref 0, .int x1, .null, .null] [] μ := by
  refine j_aload_n dX11_road_136 rfl rfl ?_
  refine j_getR (ci := 11) (N := 9) (f := 2) (T := TX11) 12 dX11_road_137 rfl (hG 0 (16, 9) rfl) rfl (by decide) fl_X11_26 rfl (hP 0 2 12 rfl) ?_
  refine j_getI (ci := 10) (N := 11) (f := 4) (T := TX10) dX11_road_140 rfl (hG 12 (15, 11) rfl) rfl (by decide) fl_X11_125 rfl ?_
  refine j_iload_n dX11_road_143 rfl rfl ?_
  refine j_ishr dX11_road_144 rfl ?_
  refine j_iconst 1 dX11_road_145 rfl (by decide) ?_
  refine j_iand dX11_road_146 rfl ?_
  exact j_iret dX11_road_147 rfl (k0 )
theorem b_X11_ghost_0 {l : Launch} {G : jG} {μ : jM} {φ : Int32 → jM → Prop} {x1 x2 : Int32} {ψ0 : Int32 → jM → Prop} (hG : gGG G) (hP : gPP μ) 
    (e0 : jC0 l mX11_isGhost 0 G [.ref 0, .int x1] μ (pI ψ0)) 
    (k0 : ∀ v μ', ψ0 v μ' → J l mX11_ghost (jZ0 1 G (pI φ)) G 0 0 5 [.ref 0, .int x1, .int x2, .null] [.int v] μ') :
    J l mX11_ghost (jZ0 1 G (pI φ)) G 0 0 0 [.ref 0, .int x1, .int x2, .null] [] μ := by
  refine j_aload_n dX11_ghost_0 rfl rfl ?_
  refine j_iload_n dX11_ghost_1 rfl rfl ?_
  refine j_cV (as := [.int x1]) (rest := []) dX11_ghost_2 rfl vw_X11_128 (hG 0 (16, 9) rfl) rfl ⟨Nat.le_of_ble_eq_true rfl, Nat.le_of_ble_eq_true rfl⟩ rfl rfl (fun _ _ => Nat.le_of_ble_eq_true rfl) (e0 ) (fun r μ' hr => ?_)
  obtain ⟨v, rfl, hr⟩ := hr
  exact k0  v μ' hr
theorem b_X11_ghost_5 {l : Launch} {G : jG} {μ : jM} {φ : Int32 → jM → Prop} {x1 x2 z0 : Int32} {ψ3 : Int32 → jM → Prop} {t : Nat} (hG : gGG G) (hP : gPP μ) (ht : tO gTold pTold G μ t) (q12_0 : μ.2.2 12 0 = some t) 
    (o0 : (¬ z0 = (0 : Int32)) → (x2 = (0 : Int32)) → vp_in x1 7) 
    (k0 : (¬ z0 = (0 : Int32)) → (x2 = (0 : Int32)) → φ (μ.1 (t + 6) (Int32.toNatClampNeg x1)) μ) 
    (o1 : (¬ z0 = (0 : Int32)) → (¬ x2 = (0 : Int32)) → (x2 = (1 : Int32)) → vp_in x1 7) 
    (k1 : (¬ z0 = (0 : Int32)) → (¬ x2 = (0 : Int32)) → (x2 = (1 : Int32)) → φ (μ.1 (t + 7) (Int32.toNatClampNeg x1)) μ) 
    (o2 : (¬ z0 = (0 : Int32)) → (¬ x2 = (0 : Int32)) → (¬ x2 = (1 : Int32)) → (x2 = (2 : Int32)) → vp_in x1 7) 
    (k2 : (¬ z0 = (0 : Int32)) → (¬ x2 = (0 : Int32)) → (¬ x2 = (1 : Int32)) → (x2 = (2 : Int32)) → φ (μ.1 (t + 8) (Int32.toNatClampNeg x1)) μ) 
    (e3 : (¬ z0 = (0 : Int32)) → (¬ x2 = (0 : Int32)) → (¬ x2 = (1 : Int32)) → (¬ x2 = (2 : Int32)) → (x2 = (3 : Int32)) → jC0 l mX8_isNightOf 0 G [.ref t, .int x1, .int (μ.1 53 0)] μ (pI ψ3)) 
    (k3 : (¬ z0 = (0 : Int32)) → (¬ x2 = (0 : Int32)) → (¬ x2 = (1 : Int32)) → (¬ x2 = (2 : Int32)) → (x2 = (3 : Int32)) → ∀ v μ', ψ3 v μ' → J l mX11_ghost (jZ0 1 G (pI φ)) G 0 0 99 [.null, .null, .null, .null] [.int v] μ') 
    (o3 : (¬ z0 = (0 : Int32)) → (¬ x2 = (0 : Int32)) → (¬ x2 = (1 : Int32)) → (¬ x2 = (2 : Int32)) → (¬ x2 = (3 : Int32)) → (x2 = (4 : Int32)) → vp_in (43 + x1) 71) 
    (k4 : (¬ z0 = (0 : Int32)) → (¬ x2 = (0 : Int32)) → (¬ x2 = (1 : Int32)) → (¬ x2 = (2 : Int32)) → (¬ x2 = (3 : Int32)) → (x2 = (4 : Int32)) → φ (μ.1 53 (Int32.toNatClampNeg (43 + x1))) μ) 
    (o4 : (¬ z0 = (0 : Int32)) → (¬ x2 = (0 : Int32)) → (¬ x2 = (1 : Int32)) → (¬ x2 = (2 : Int32)) → (¬ x2 = (3 : Int32)) → (¬ x2 = (4 : Int32)) → (x2 = (5 : Int32)) → vp_in (50 + x1) 71) 
    (k5 : (¬ z0 = (0 : Int32)) → (¬ x2 = (0 : Int32)) → (¬ x2 = (1 : Int32)) → (¬ x2 = (2 : Int32)) → (¬ x2 = (3 : Int32)) → (¬ x2 = (4 : Int32)) → (x2 = (5 : Int32)) → φ (μ.1 53 (Int32.toNatClampNeg (50 + x1))) μ) 
    (o5 : (¬ z0 = (0 : Int32)) → (¬ x2 = (0 : Int32)) → (¬ x2 = (1 : Int32)) → (¬ x2 = (2 : Int32)) → (¬ x2 = (3 : Int32)) → (¬ x2 = (4 : Int32)) → (¬ x2 = (5 : Int32)) → (x2 = (6 : Int32)) → vp_in (57 + x1) 71) 
    (k6 : (¬ z0 = (0 : Int32)) → (¬ x2 = (0 : Int32)) → (¬ x2 = (1 : Int32)) → (¬ x2 = (2 : Int32)) → (¬ x2 = (3 : Int32)) → (¬ x2 = (4 : Int32)) → (¬ x2 = (5 : Int32)) → (x2 = (6 : Int32)) → φ (μ.1 53 (Int32.toNatClampNeg (57 + x1))) μ) 
    (o6 : (¬ z0 = (0 : Int32)) → (¬ x2 = (0 : Int32)) → (¬ x2 = (1 : Int32)) → (¬ x2 = (2 : Int32)) → (¬ x2 = (3 : Int32)) → (¬ x2 = (4 : Int32)) → (¬ x2 = (5 : Int32)) → (¬ x2 = (6 : Int32)) → (x2 = (7 : Int32)) → vp_in (64 + x1) 71) 
    (k7 : (¬ z0 = (0 : Int32)) → (¬ x2 = (0 : Int32)) → (¬ x2 = (1 : Int32)) → (¬ x2 = (2 : Int32)) → (¬ x2 = (3 : Int32)) → (¬ x2 = (4 : Int32)) → (¬ x2 = (5 : Int32)) → (¬ x2 = (6 : Int32)) → (x2 = (7 : Int32)) → φ (μ.1 53 (Int32.toNatClampNeg (64 + x1))) μ) 
    (k8 : (¬ z0 = (0 : Int32)) → (¬ x2 = (0 : Int32)) → (¬ x2 = (1 : Int32)) → (¬ x2 = (2 : Int32)) → (¬ x2 = (3 : Int32)) → (¬ x2 = (4 : Int32)) → (¬ x2 = (5 : Int32)) → (¬ x2 = (6 : Int32)) → (¬ x2 = (7 : Int32)) → φ (-1) μ) 
    (k9 : (z0 = (0 : Int32)) → φ (-1) μ) :
    J l mX11_ghost (jZ0 1 G (pI φ)) G 0 0 5 [.ref 0, .int x1, .int x2, .null] [.int z0] μ := by
  refine j_if_ne 10 dX11_ghost_5 rfl (by decide) (fun c0 => ?_) (fun c0 => ?_)
  · skip
    refine j_aload_n dX11_ghost_10 rfl rfl ?_
    refine j_getR (ci := 11) (N := 9) (f := 2) (T := TX11) 12 dX11_ghost_11 rfl (hG 0 (16, 9) rfl) rfl (by decide) fl_X11_26 rfl (hP 0 2 12 rfl) ?_
    refine j_getR (ci := 10) (N := 11) (f := 0) (T := TX10) t dX11_ghost_14 rfl (hG 12 (15, 11) rfl) rfl (by decide) fl_X11_97 rfl q12_0 ?_
    refine j_astore_n (ls' := [.ref 0, .int x1, .int x2, .ref t]) dX11_ghost_17 rfl rfl (Nat.le_of_ble_eq_true rfl) rfl ?_
    refine j_iload_n dX11_ghost_18 rfl rfl ?_
    by_cases c1 : x2 = (0 : Int32)
    · skip
      refine j_tableIn (off := 45) 64 dX11_ghost_19 (sw_1 c1 (by decide)) (sw_2 c1 (by decide)) (sw_3 c1 (by decide)) (by decide) ?_
      refine j_aload_n dX11_ghost_64 rfl rfl ?_
      refine j_getR (ci := 8) (N := 20) (f := 10) (T := TX8) (t + 6) dX11_ghost_65 rfl (ht.1 0 (13, 20) rfl) rfl (by decide) fl_X11_131 rfl (ht.2 0 10 6 rfl) ?_
      refine j_iload_n dX11_ghost_68 rfl rfl ?_
      refine j_iald' (j := (Int32.toNatClampNeg x1)) dX11_ghost_69 rfl (ht.1 6 (0, 7) rfl) (o0 c0 c1) rfl ?_
      exact j_iret dX11_ghost_70 rfl (k0 c0 c1)
    by_cases c2 : x2 = (1 : Int32)
    · skip
      refine j_tableIn (off := 52) 71 dX11_ghost_19 (sw_1 c2 (by decide)) (sw_2 c2 (by decide)) (sw_3 c2 (by decide)) (by decide) ?_
      refine j_aload_n dX11_ghost_71 rfl rfl ?_
      refine j_getR (ci := 8) (N := 20) (f := 11) (T := TX8) (t + 7) dX11_ghost_72 rfl (ht.1 0 (13, 20) rfl) rfl (by decide) fl_X11_134 rfl (ht.2 0 11 7 rfl) ?_
      refine j_iload_n dX11_ghost_75 rfl rfl ?_
      refine j_iald' (j := (Int32.toNatClampNeg x1)) dX11_ghost_76 rfl (ht.1 7 (0, 7) rfl) (o1 c0 c1 c2) rfl ?_
      exact j_iret dX11_ghost_77 rfl (k1 c0 c1 c2)
    by_cases c3 : x2 = (2 : Int32)
    · skip
      refine j_tableIn (off := 59) 78 dX11_ghost_19 (sw_1 c3 (by decide)) (sw_2 c3 (by decide)) (sw_3 c3 (by decide)) (by decide) ?_
      refine j_aload_n dX11_ghost_78 rfl rfl ?_
      refine j_getR (ci := 8) (N := 20) (f := 12) (T := TX8) (t + 8) dX11_ghost_79 rfl (ht.1 0 (13, 20) rfl) rfl (by decide) fl_X11_137 rfl (ht.2 0 12 8 rfl) ?_
      refine j_iload_n dX11_ghost_82 rfl rfl ?_
      refine j_iald' (j := (Int32.toNatClampNeg x1)) dX11_ghost_83 rfl (ht.1 8 (0, 7) rfl) (o2 c0 c1 c2 c3) rfl ?_
      exact j_iret dX11_ghost_84 rfl (k2 c0 c1 c2 c3)
    by_cases c4 : x2 = (3 : Int32)
    · skip
      refine j_tableIn (off := 66) 85 dX11_ghost_19 (sw_1 c4 (by decide)) (sw_2 c4 (by decide)) (sw_3 c4 (by decide)) (by decide) ?_
      refine j_aload_n dX11_ghost_85 rfl rfl ?_
      refine j_iload_n dX11_ghost_86 rfl rfl ?_
      refine j_aload_n dX11_ghost_87 rfl rfl ?_
      refine j_getR (ci := 11) (N := 9) (f := 3) (T := TX11) 52 dX11_ghost_88 rfl (hG 0 (16, 9) rfl) rfl (by decide) fl_X11_33 rfl (hP 0 3 52 rfl) ?_
      refine j_getR (ci := 5) (N := 1) (f := 0) (T := TX5) 53 dX11_ghost_91 rfl (hG 52 (10, 1) rfl) rfl (by decide) fl_X11_122 rfl (hP 52 0 53 rfl) ?_
      refine j_iconst 0 dX11_ghost_94 rfl (by decide) ?_
      refine j_iald' (j := 0) dX11_ghost_95 rfl (hG 53 (0, 71) rfl) (vpK (by decide)) (by decide) ?_
      refine j_cV (as := [.int x1, .int (μ.1 53 0)]) (rest := []) dX11_ghost_96 rfl vw_X11_140 (ht.1 0 (13, 20) rfl) rfl ⟨Nat.le_of_ble_eq_true rfl, Nat.le_of_ble_eq_true rfl⟩ rfl rfl (fun _ _ => Nat.le_of_ble_eq_true rfl) (e3 c0 c1 c2 c3 c4) (fun r μ' hr => ?_)
      obtain ⟨v, rfl, hr⟩ := hr
      refine j_forget (ls' := [.null, .null, .null, .null]) ⟨Or.inl rfl, Or.inl rfl, Or.inl rfl, Or.inl rfl, trivial⟩ ?_
      exact k3 c0 c1 c2 c3 c4 v μ' hr
    by_cases c5 : x2 = (4 : Int32)
    · skip
      refine j_tableIn (off := 89) 108 dX11_ghost_19 (sw_1 c5 (by decide)) (sw_2 c5 (by decide)) (sw_3 c5 (by decide)) (by decide) ?_
      refine j_aload_n dX11_ghost_108 rfl rfl ?_
      refine j_getR (ci := 11) (N := 9) (f := 3) (T := TX11) 52 dX11_ghost_109 rfl (hG 0 (16, 9) rfl) rfl (by decide) fl_X11_33 rfl (hP 0 3 52 rfl) ?_
      refine j_getR (ci := 5) (N := 1) (f := 0) (T := TX5) 53 dX11_ghost_112 rfl (hG 52 (10, 1) rfl) rfl (by decide) fl_X11_122 rfl (hP 52 0 53 rfl) ?_
      refine j_bipush 43 dX11_ghost_115 rfl (by decide) ?_
      refine j_iload_n dX11_ghost_117 rfl rfl ?_
      refine j_iadd dX11_ghost_118 rfl ?_
      refine j_iald' (j := (Int32.toNatClampNeg (43 + x1))) dX11_ghost_119 rfl (hG 53 (0, 71) rfl) (o3 c0 c1 c2 c3 c4 c5) rfl ?_
      exact j_iret dX11_ghost_120 rfl (k4 c0 c1 c2 c3 c4 c5)
    by_cases c6 : x2 = (5 : Int32)
    · skip
      refine j_tableIn (off := 102) 121 dX11_ghost_19 (sw_1 c6 (by decide)) (sw_2 c6 (by decide)) (sw_3 c6 (by decide)) (by decide) ?_
      refine j_aload_n dX11_ghost_121 rfl rfl ?_
      refine j_getR (ci := 11) (N := 9) (f := 3) (T := TX11) 52 dX11_ghost_122 rfl (hG 0 (16, 9) rfl) rfl (by decide) fl_X11_33 rfl (hP 0 3 52 rfl) ?_
      refine j_getR (ci := 5) (N := 1) (f := 0) (T := TX5) 53 dX11_ghost_125 rfl (hG 52 (10, 1) rfl) rfl (by decide) fl_X11_122 rfl (hP 52 0 53 rfl) ?_
      refine j_bipush 50 dX11_ghost_128 rfl (by decide) ?_
      refine j_iload_n dX11_ghost_130 rfl rfl ?_
      refine j_iadd dX11_ghost_131 rfl ?_
      refine j_iald' (j := (Int32.toNatClampNeg (50 + x1))) dX11_ghost_132 rfl (hG 53 (0, 71) rfl) (o4 c0 c1 c2 c3 c4 c5 c6) rfl ?_
      exact j_iret dX11_ghost_133 rfl (k5 c0 c1 c2 c3 c4 c5 c6)
    by_cases c7 : x2 = (6 : Int32)
    · skip
      refine j_tableIn (off := 115) 134 dX11_ghost_19 (sw_1 c7 (by decide)) (sw_2 c7 (by decide)) (sw_3 c7 (by decide)) (by decide) ?_
      refine j_aload_n dX11_ghost_134 rfl rfl ?_
      refine j_getR (ci := 11) (N := 9) (f := 3) (T := TX11) 52 dX11_ghost_135 rfl (hG 0 (16, 9) rfl) rfl (by decide) fl_X11_33 rfl (hP 0 3 52 rfl) ?_
      refine j_getR (ci := 5) (N := 1) (f := 0) (T := TX5) 53 dX11_ghost_138 rfl (hG 52 (10, 1) rfl) rfl (by decide) fl_X11_122 rfl (hP 52 0 53 rfl) ?_
      refine j_bipush 57 dX11_ghost_141 rfl (by decide) ?_
      refine j_iload_n dX11_ghost_143 rfl rfl ?_
      refine j_iadd dX11_ghost_144 rfl ?_
      refine j_iald' (j := (Int32.toNatClampNeg (57 + x1))) dX11_ghost_145 rfl (hG 53 (0, 71) rfl) (o5 c0 c1 c2 c3 c4 c5 c6 c7) rfl ?_
      exact j_iret dX11_ghost_146 rfl (k6 c0 c1 c2 c3 c4 c5 c6 c7)
    by_cases c8 : x2 = (7 : Int32)
    · skip
      refine j_tableIn (off := 128) 147 dX11_ghost_19 (sw_1 c8 (by decide)) (sw_2 c8 (by decide)) (sw_3 c8 (by decide)) (by decide) ?_
      refine j_aload_n dX11_ghost_147 rfl rfl ?_
      refine j_getR (ci := 11) (N := 9) (f := 3) (T := TX11) 52 dX11_ghost_148 rfl (hG 0 (16, 9) rfl) rfl (by decide) fl_X11_33 rfl (hP 0 3 52 rfl) ?_
      refine j_getR (ci := 5) (N := 1) (f := 0) (T := TX5) 53 dX11_ghost_151 rfl (hG 52 (10, 1) rfl) rfl (by decide) fl_X11_122 rfl (hP 52 0 53 rfl) ?_
      refine j_bipush 64 dX11_ghost_154 rfl (by decide) ?_
      refine j_iload_n dX11_ghost_156 rfl rfl ?_
      refine j_iadd dX11_ghost_157 rfl ?_
      refine j_iald' (j := (Int32.toNatClampNeg (64 + x1))) dX11_ghost_158 rfl (hG 53 (0, 71) rfl) (o6 c0 c1 c2 c3 c4 c5 c6 c7 c8) rfl ?_
      exact j_iret dX11_ghost_159 rfl (k7 c0 c1 c2 c3 c4 c5 c6 c7 c8)
    refine j_tableOut 160 dX11_ghost_19 (sw_o [0, 1, 2, 3, 4, 5, 6, 7] (by decide) ⟨c1, c2, c3, c4, c5, c6, c7, c8, trivial⟩) (by decide) ?_
    refine j_iconst (-1) dX11_ghost_160 rfl (by decide) ?_
    exact j_iret dX11_ghost_161 rfl (k8 c0 c1 c2 c3 c4 c5 c6 c7 c8)
  · skip
    refine j_iconst (-1) dX11_ghost_8 rfl (by decide) ?_
    exact j_iret dX11_ghost_9 rfl (k9 c0)
theorem b_X11_ghost_99 {l : Launch} {G : jG} {μ : jM} {φ : Int32 → jM → Prop} {z0 : Int32} (hG : gGG G) (hP : gPP μ) 
    (k0 : (z0 = (0 : Int32)) → φ 0 μ) 
    (k1 : (¬ (z0 = (0 : Int32))) → φ 1 μ) :
    J l mX11_ghost (jZ0 1 G (pI φ)) G 0 0 99 [.null, .null, .null, .null] [.int z0] μ := by
  refine j_if_eq 106 dX11_ghost_99 rfl (by decide) (fun c0 => ?_) (fun c0 => ?_)
  · skip
    refine j_iconst 0 dX11_ghost_106 rfl (by decide) ?_
    exact j_iret dX11_ghost_107 rfl (k0 c0)
  · skip
    refine j_iconst 1 dX11_ghost_102 rfl (by decide) ?_
    refine j_goto 107 dX11_ghost_103 (by decide) ?_
    exact j_iret dX11_ghost_107 rfl (k1 c0)
theorem b_X11_cost_0 {l : Launch} {G : jG} {μ : jM} {φ : Int32 → jM → Prop} {x1 x2 : Int32} {ψ0 : Int32 → jM → Prop} (hG : gGG G) (hP : gPP μ) 
    (e0 : jC0 l mX11_isGhost 0 G [.ref 0, .int x1] μ (pI ψ0)) 
    (k0 : ∀ v μ', ψ0 v μ' → J l mX11_cost (jZ0 4 G (pI φ)) G 0 0 5 [.ref 0, .int x1, .int x2] [.int v] μ') :
    J l mX11_cost (jZ0 4 G (pI φ)) G 0 0 0 [.ref 0, .int x1, .int x2] [] μ := by
  refine j_aload_n dX11_cost_0 rfl rfl ?_
  refine j_iload_n dX11_cost_1 rfl rfl ?_
  refine j_cV (as := [.int x1]) (rest := []) dX11_cost_2 rfl vw_X11_128 (hG 0 (16, 9) rfl) rfl ⟨Nat.le_of_ble_eq_true rfl, Nat.le_of_ble_eq_true rfl⟩ rfl rfl (fun _ _ => Nat.le_of_ble_eq_true rfl) (e0 ) (fun r μ' hr => ?_)
  obtain ⟨v, rfl, hr⟩ := hr
  exact k0  v μ' hr
theorem b_X11_cost_5 {l : Launch} {G : jG} {μ : jM} {φ : Int32 → jM → Prop} {x1 x2 z0 : Int32} {ψ1 : Int32 → jM → Prop} (hG : gGG G) (hP : gPP μ) 
    (k0 : (z0 = (0 : Int32)) → φ (-1) μ) 
    (e1 : (¬ (z0 = (0 : Int32))) → jC0 l mX11_isRoad 0 G [.ref 0, .int x2] μ (pI ψ1)) 
    (k1 : (¬ (z0 = (0 : Int32))) → ∀ v μ', ψ1 v μ' → J l mX11_cost (jZ0 4 G (pI φ)) G 0 0 13 [.ref 0, .int x1, .int x2] [.int v] μ') :
    J l mX11_cost (jZ0 4 G (pI φ)) G 0 0 5 [.ref 0, .int x1, .int x2] [.int z0] μ := by
  refine j_if_eq 16 dX11_cost_5 rfl (by decide) (fun c0 => ?_) (fun c0 => ?_)
  · skip
    refine j_iconst (-1) dX11_cost_16 rfl (by decide) ?_
    exact j_iret dX11_cost_17 rfl (k0 c0)
  · skip
    refine j_aload_n dX11_cost_8 rfl rfl ?_
    refine j_iload_n dX11_cost_9 rfl rfl ?_
    refine j_cV (as := [.int x2]) (rest := []) dX11_cost_10 rfl vw_X11_105 (hG 0 (16, 9) rfl) rfl ⟨Nat.le_of_ble_eq_true rfl, Nat.le_of_ble_eq_true rfl⟩ rfl rfl (fun _ _ => Nat.le_of_ble_eq_true rfl) (e1 c0) (fun r μ' hr => ?_)
    obtain ⟨v, rfl, hr⟩ := hr
    exact k1 c0 v μ' hr
theorem b_X11_cost_13 {l : Launch} {G : jG} {μ : jM} {φ : Int32 → jM → Prop} {x1 x2 z0 : Int32} {ψ0 : jM → Prop} (hG : gGG G) (hP : gPP μ) 
    (e0 : (¬ z0 = (0 : Int32)) → jC0 l mX10_enter 3 G [.ref 12, .ref 52] μ (pV ψ0)) 
    (k0 : (¬ z0 = (0 : Int32)) → ∀ μ', ψ0 μ' → J l mX11_cost (jZ0 4 G (pI φ)) G 0 0 29 [.ref 0, .int x1, .int x2] [] μ') 
    (k1 : (z0 = (0 : Int32)) → φ (-1) μ) :
    J l mX11_cost (jZ0 4 G (pI φ)) G 0 0 13 [.ref 0, .int x1, .int x2] [.int z0] μ := by
  refine j_if_ne 18 dX11_cost_13 rfl (by decide) (fun c0 => ?_) (fun c0 => ?_)
  · skip
    refine j_aload_n dX11_cost_18 rfl rfl ?_
    refine j_getR (ci := 11) (N := 9) (f := 2) (T := TX11) 12 dX11_cost_19 rfl (hG 0 (16, 9) rfl) rfl (by decide) fl_X11_26 rfl (hP 0 2 12 rfl) ?_
    refine j_aload_n dX11_cost_22 rfl rfl ?_
    refine j_getR (ci := 11) (N := 9) (f := 3) (T := TX11) 52 dX11_cost_23 rfl (hG 0 (16, 9) rfl) rfl (by decide) fl_X11_33 rfl (hP 0 3 52 rfl) ?_
    refine j_cV (as := [.ref 52]) (rest := []) dX11_cost_26 rfl vw_X11_81 (hG 12 (15, 11) rfl) rfl ⟨Nat.le_of_ble_eq_true rfl, Nat.le_of_ble_eq_true rfl⟩ rfl rfl (fun _ _ => Nat.le_of_ble_eq_true rfl) (e0 c0) (fun r μ' hr => ?_)
    obtain ⟨rfl, hr⟩ := hr
    exact k0 c0 μ' hr
  · skip
    refine j_iconst (-1) dX11_cost_16 rfl (by decide) ?_
    exact j_iret dX11_cost_17 rfl (k1 c0)
theorem b_X11_cost_29 {l : Launch} {G : jG} {μ : jM} {φ : Int32 → jM → Prop} {x1 x2 : Int32} {ψ0 : Int32 → jM → Prop} (hG : gGG G) (hP : gPP μ) 
    (e0 : jC0 l mX10_priceOf 2 G [.ref 12, .int x1, .int x2] μ (pI ψ0)) 
    (k0 : ∀ v μ', ψ0 v μ' → J l mX11_cost (jZ0 4 G (pI φ)) G 0 0 38 [.null, .null, .null] [.int v] μ') :
    J l mX11_cost (jZ0 4 G (pI φ)) G 0 0 29 [.ref 0, .int x1, .int x2] [] μ := by
  refine j_aload_n dX11_cost_29 rfl rfl ?_
  refine j_getR (ci := 11) (N := 9) (f := 2) (T := TX11) 12 dX11_cost_30 rfl (hG 0 (16, 9) rfl) rfl (by decide) fl_X11_26 rfl (hP 0 2 12 rfl) ?_
  refine j_iload_n dX11_cost_33 rfl rfl ?_
  refine j_iload_n dX11_cost_34 rfl rfl ?_
  refine j_cV (as := [.int x1, .int x2]) (rest := []) dX11_cost_35 rfl vw_X11_144 (hG 12 (15, 11) rfl) rfl ⟨Nat.le_of_ble_eq_true rfl, Nat.le_of_ble_eq_true rfl⟩ rfl rfl (fun _ _ => Nat.le_of_ble_eq_true rfl) (e0 ) (fun r μ' hr => ?_)
  obtain ⟨v, rfl, hr⟩ := hr
  refine j_forget (ls' := [.null, .null, .null]) ⟨Or.inl rfl, Or.inl rfl, Or.inl rfl, trivial⟩ ?_
  exact k0  v μ' hr
theorem b_X11_cost_38 {l : Launch} {G : jG} {μ : jM} {φ : Int32 → jM → Prop} {z0 : Int32} (hG : gGG G) (hP : gPP μ) 
    (k0 : φ z0 μ) :
    J l mX11_cost (jZ0 4 G (pI φ)) G 0 0 38 [.null, .null, .null] [.int z0] μ := by
  exact j_iret dX11_cost_38 rfl (k0 )
theorem b_X11_way_0 {l : Launch} {G : jG} {μ : jM} {φ : Int32 → jM → Prop} {x1 x2 : Int32} {ψ0 : Int32 → jM → Prop} (hG : gGG G) (hP : gPP μ) 
    (e0 : jC0 l mX11_isGhost 0 G [.ref 0, .int x1] μ (pI ψ0)) 
    (k0 : ∀ v μ', ψ0 v μ' → J l mX11_way (jZ0 4 G (pI φ)) G 0 0 5 [.ref 0, .int x1, .int x2, .null] [.int v] μ') :
    J l mX11_way (jZ0 4 G (pI φ)) G 0 0 0 [.ref 0, .int x1, .int x2, .null] [] μ := by
  refine j_aload_n dX11_way_0 rfl rfl ?_
  refine j_iload_n dX11_way_1 rfl rfl ?_
  refine j_cV (as := [.int x1]) (rest := []) dX11_way_2 rfl vw_X11_128 (hG 0 (16, 9) rfl) rfl ⟨Nat.le_of_ble_eq_true rfl, Nat.le_of_ble_eq_true rfl⟩ rfl rfl (fun _ _ => Nat.le_of_ble_eq_true rfl) (e0 ) (fun r μ' hr => ?_)
  obtain ⟨v, rfl, hr⟩ := hr
  exact k0  v μ' hr
theorem b_X11_way_5 {l : Launch} {G : jG} {μ : jM} {φ : Int32 → jM → Prop} {x1 x2 z0 : Int32} {ψ2 : jM → Prop} (hG : gGG G) (hP : gPP μ) 
    (k0 : (z0 = (0 : Int32)) → φ (-1) μ) 
    (k1 : (¬ (z0 = (0 : Int32))) → (x2 < (0 : Int32)) → φ (-1) μ) 
    (e2 : (¬ (z0 = (0 : Int32))) → (¬ (x2 < (0 : Int32))) → (x2 ≤ (3 : Int32)) → jC0 l mX10_enter 3 G [.ref 12, .ref 52] μ (pV ψ2)) 
    (k2 : (¬ (z0 = (0 : Int32))) → (¬ (x2 < (0 : Int32))) → (x2 ≤ (3 : Int32)) → ∀ μ', ψ2 μ' → J l mX11_way (jZ0 4 G (pI φ)) G 0 0 30 [.ref 0, .int x1, .int x2, .null] [] μ') 
    (k3 : (¬ (z0 = (0 : Int32))) → (¬ (x2 < (0 : Int32))) → (¬ (x2 ≤ (3 : Int32))) → φ (-1) μ) :
    J l mX11_way (jZ0 4 G (pI φ)) G 0 0 5 [.ref 0, .int x1, .int x2, .null] [.int z0] μ := by
  refine j_if_eq 17 dX11_way_5 rfl (by decide) (fun c0 => ?_) (fun c0 => ?_)
  · skip
    refine j_iconst (-1) dX11_way_17 rfl (by decide) ?_
    exact j_iret dX11_way_18 rfl (k0 c0)
  · skip
    refine j_iload_n dX11_way_8 rfl rfl ?_
    refine j_if_lt 17 dX11_way_9 rfl (by decide) (fun c1 => ?_) (fun c1 => ?_)
    · skip
      refine j_iconst (-1) dX11_way_17 rfl (by decide) ?_
      exact j_iret dX11_way_18 rfl (k1 c0 c1)
    · skip
      refine j_iload_n dX11_way_12 rfl rfl ?_
      refine j_iconst 3 dX11_way_13 rfl (by decide) ?_
      refine j_icmp_le 19 dX11_way_14 rfl (by decide) (fun c2 => ?_) (fun c2 => ?_)
      · skip
        refine j_aload_n dX11_way_19 rfl rfl ?_
        refine j_getR (ci := 11) (N := 9) (f := 2) (T := TX11) 12 dX11_way_20 rfl (hG 0 (16, 9) rfl) rfl (by decide) fl_X11_26 rfl (hP 0 2 12 rfl) ?_
        refine j_aload_n dX11_way_23 rfl rfl ?_
        refine j_getR (ci := 11) (N := 9) (f := 3) (T := TX11) 52 dX11_way_24 rfl (hG 0 (16, 9) rfl) rfl (by decide) fl_X11_33 rfl (hP 0 3 52 rfl) ?_
        refine j_cV (as := [.ref 52]) (rest := []) dX11_way_27 rfl vw_X11_81 (hG 12 (15, 11) rfl) rfl ⟨Nat.le_of_ble_eq_true rfl, Nat.le_of_ble_eq_true rfl⟩ rfl rfl (fun _ _ => Nat.le_of_ble_eq_true rfl) (e2 c0 c1 c2) (fun r μ' hr => ?_)
        obtain ⟨rfl, hr⟩ := hr
        exact k2 c0 c1 c2 μ' hr
      · skip
        refine j_iconst (-1) dX11_way_17 rfl (by decide) ?_
        exact j_iret dX11_way_18 rfl (k3 c0 c1 c2)
theorem b_X11_way_30 {l : Launch} {G : jG} {μ : jM} {φ : Int32 → jM → Prop} {x1 x2 : Int32} {ψ0 : Int32 → jM → Prop} (hG : gGG G) (hP : gPP μ) 
    (e0 : jC0 l mX10_findWay 3 G [.ref 12, .int x1] μ (pI ψ0)) 
    (k0 : ∀ v μ', ψ0 v μ' → J l mX11_way (jZ0 4 G (pI φ)) G 0 0 38 [.ref 0, .int x1, .int x2, .null] [.int v] μ') :
    J l mX11_way (jZ0 4 G (pI φ)) G 0 0 30 [.ref 0, .int x1, .int x2, .null] [] μ := by
  refine j_aload_n dX11_way_30 rfl rfl ?_
  refine j_getR (ci := 11) (N := 9) (f := 2) (T := TX11) 12 dX11_way_31 rfl (hG 0 (16, 9) rfl) rfl (by decide) fl_X11_26 rfl (hP 0 2 12 rfl) ?_
  refine j_iload_n dX11_way_34 rfl rfl ?_
  refine j_cV (as := [.int x1]) (rest := []) dX11_way_35 rfl vw_X11_148 (hG 12 (15, 11) rfl) rfl ⟨Nat.le_of_ble_eq_true rfl, Nat.le_of_ble_eq_true rfl⟩ rfl rfl (fun _ _ => Nat.le_of_ble_eq_true rfl) (e0 ) (fun r μ' hr => ?_)
  obtain ⟨v, rfl, hr⟩ := hr
  exact k0  v μ' hr
theorem b_X11_way_38 {l : Launch} {G : jG} {μ : jM} {φ : Int32 → jM → Prop} {x1 x2 z0 : Int32} {ψ1 : Int32 → jM → Prop} {ψ3 : Int32 → jM → Prop} {t y : Nat} (hG : gGG G) (hP : gPP μ) (ht : tO gTold pTold G μ t) (hy : tO gWay pWay G μ y) (q12_0 : μ.2.2 12 0 = some t) 
    (o0 : (¬ z0 = (0 : Int32)) → vp_in x1 7) 
    (o1 : (¬ z0 = (0 : Int32)) → μ.2.2 13 (Int32.toNatClampNeg x1) = some y) 
    (k0 : (¬ z0 = (0 : Int32)) → (x2 = (0 : Int32)) → φ (μ.1 y 6) μ) 
    (e1 : (¬ z0 = (0 : Int32)) → (¬ x2 = (0 : Int32)) → (x2 = (1 : Int32)) → jC0 l mX10_hoursOf 0 G [.ref 12, .ref y] μ (pI ψ1)) 
    (k1 : (¬ z0 = (0 : Int32)) → (¬ x2 = (0 : Int32)) → (x2 = (1 : Int32)) → ∀ v μ', ψ1 v μ' → J l mX11_way (jZ0 4 G (pI φ)) G 0 0 93 [.null, .null, .null, .null] [.int v] μ') 
    (k2 : (¬ z0 = (0 : Int32)) → (¬ x2 = (0 : Int32)) → (¬ x2 = (1 : Int32)) → (x2 = (2 : Int32)) → φ (μ.1 y 5) μ) 
    (e3 : (¬ z0 = (0 : Int32)) → (¬ x2 = (0 : Int32)) → (¬ x2 = (1 : Int32)) → (¬ x2 = (2 : Int32)) → jC0 l mX10_paidOn 1 G [.ref 12, .ref y, .int (μ.1 (t + 7) (Int32.toNatClampNeg x1))] μ (pI ψ3)) 
    (k3 : (¬ z0 = (0 : Int32)) → (¬ x2 = (0 : Int32)) → (¬ x2 = (1 : Int32)) → (¬ x2 = (2 : Int32)) → ∀ v μ', ψ3 v μ' → J l mX11_way (jZ0 4 G (pI φ)) G 0 0 119 [.null, .null, .null, .null] [.int v] μ') 
    (k4 : (z0 = (0 : Int32)) → φ (-2) μ) :
    J l mX11_way (jZ0 4 G (pI φ)) G 0 0 38 [.ref 0, .int x1, .int x2, .null] [.int z0] μ := by
  refine j_if_ne 44 dX11_way_38 rfl (by decide) (fun c0 => ?_) (fun c0 => ?_)
  · skip
    refine j_aload_n dX11_way_44 rfl rfl ?_
    refine j_getR (ci := 11) (N := 9) (f := 2) (T := TX11) 12 dX11_way_45 rfl (hG 0 (16, 9) rfl) rfl (by decide) fl_X11_26 rfl (hP 0 2 12 rfl) ?_
    refine j_getR (ci := 10) (N := 11) (f := 3) (T := TX10) 13 dX11_way_48 rfl (hG 12 (15, 11) rfl) rfl (by decide) fl_X11_151 rfl (hP 12 3 13 rfl) ?_
    refine j_iload_n dX11_way_51 rfl rfl ?_
    refine j_aald' (j := (Int32.toNatClampNeg x1)) dX11_way_52 rfl (hG 13 (4, 7) rfl) (o0 c0) rfl (o1 c0) ?_
    refine j_astore_n (ls' := [.ref 0, .int x1, .int x2, .ref y]) dX11_way_53 rfl rfl (Nat.le_of_ble_eq_true rfl) rfl ?_
    refine j_iload_n dX11_way_54 rfl rfl ?_
    by_cases c1 : x2 = (0 : Int32)
    · skip
      refine j_tableIn (off := 25) 80 dX11_way_55 (sw_1 c1 (by decide)) (sw_2 c1 (by decide)) (sw_3 c1 (by decide)) (by decide) ?_
      refine j_aload_n dX11_way_80 rfl rfl ?_
      refine j_getI (ci := 9) (N := 9) (f := 6) (T := TX9) dX11_way_81 rfl (hy.1 0 (14, 9) rfl) rfl (by decide) fl_X11_155 rfl ?_
      exact j_iret dX11_way_84 rfl (k0 c0 c1)
    by_cases c2 : x2 = (1 : Int32)
    · skip
      refine j_tableIn (off := 30) 85 dX11_way_55 (sw_1 c2 (by decide)) (sw_2 c2 (by decide)) (sw_3 c2 (by decide)) (by decide) ?_
      refine j_aload_n dX11_way_85 rfl rfl ?_
      refine j_getR (ci := 11) (N := 9) (f := 2) (T := TX11) 12 dX11_way_86 rfl (hG 0 (16, 9) rfl) rfl (by decide) fl_X11_26 rfl (hP 0 2 12 rfl) ?_
      refine j_aload_n dX11_way_89 rfl rfl ?_
      refine j_cV (as := [.ref y]) (rest := []) dX11_way_90 rfl vw_X11_160 (hG 12 (15, 11) rfl) rfl ⟨Nat.le_of_ble_eq_true rfl, Nat.le_of_ble_eq_true rfl⟩ rfl rfl (fun _ _ => Nat.le_of_ble_eq_true rfl) (e1 c0 c1 c2) (fun r μ' hr => ?_)
      obtain ⟨v, rfl, hr⟩ := hr
      refine j_forget (ls' := [.null, .null, .null, .null]) ⟨Or.inl rfl, Or.inl rfl, Or.inl rfl, Or.inl rfl, trivial⟩ ?_
      exact k1 c0 c1 c2 v μ' hr
    by_cases c3 : x2 = (2 : Int32)
    · skip
      refine j_tableIn (off := 39) 94 dX11_way_55 (sw_1 c3 (by decide)) (sw_2 c3 (by decide)) (sw_3 c3 (by decide)) (by decide) ?_
      refine j_aload_n dX11_way_94 rfl rfl ?_
      refine j_getI (ci := 9) (N := 9) (f := 5) (T := TX9) dX11_way_95 rfl (hy.1 0 (14, 9) rfl) rfl (by decide) fl_X11_164 rfl ?_
      exact j_iret dX11_way_98 rfl (k2 c0 c1 c2 c3)
    refine j_tableOut 99 dX11_way_55 (sw_o [0, 1, 2] (by decide) ⟨c1, c2, c3, trivial⟩) (by decide) ?_
    refine j_aload_n dX11_way_99 rfl rfl ?_
    refine j_getR (ci := 11) (N := 9) (f := 2) (T := TX11) 12 dX11_way_100 rfl (hG 0 (16, 9) rfl) rfl (by decide) fl_X11_26 rfl (hP 0 2 12 rfl) ?_
    refine j_aload_n dX11_way_103 rfl rfl ?_
    refine j_aload_n dX11_way_104 rfl rfl ?_
    refine j_getR (ci := 11) (N := 9) (f := 2) (T := TX11) 12 dX11_way_105 rfl (hG 0 (16, 9) rfl) rfl (by decide) fl_X11_26 rfl (hP 0 2 12 rfl) ?_
    refine j_getR (ci := 10) (N := 11) (f := 0) (T := TX10) t dX11_way_108 rfl (hG 12 (15, 11) rfl) rfl (by decide) fl_X11_97 rfl q12_0 ?_
    refine j_getR (ci := 8) (N := 20) (f := 11) (T := TX8) (t + 7) dX11_way_111 rfl (ht.1 0 (13, 20) rfl) rfl (by decide) fl_X11_134 rfl (ht.2 0 11 7 rfl) ?_
    refine j_iload_n dX11_way_114 rfl rfl ?_
    refine j_iald' (j := (Int32.toNatClampNeg x1)) dX11_way_115 rfl (ht.1 7 (0, 7) rfl) (o0 c0) rfl ?_
    refine j_cV (as := [.ref y, .int (μ.1 (t + 7) (Int32.toNatClampNeg x1))]) (rest := []) dX11_way_116 rfl vw_X11_165 (hG 12 (15, 11) rfl) rfl ⟨Nat.le_of_ble_eq_true rfl, Nat.le_of_ble_eq_true rfl⟩ rfl rfl (fun _ _ => Nat.le_of_ble_eq_true rfl) (e3 c0 c1 c2 c3) (fun r μ' hr => ?_)
    obtain ⟨v, rfl, hr⟩ := hr
    refine j_forget (ls' := [.null, .null, .null, .null]) ⟨Or.inl rfl, Or.inl rfl, Or.inl rfl, Or.inl rfl, trivial⟩ ?_
    exact k3 c0 c1 c2 c3 v μ' hr
  · skip
    refine j_bipush (-2) dX11_way_41 rfl (by decide) ?_
    exact j_iret dX11_way_43 rfl (k4 c0)
theorem b_X11_way_93 {l : Launch} {G : jG} {μ : jM} {φ : Int32 → jM → Prop} {z0 : Int32} (hG : gGG G) (hP : gPP μ) 
    (k0 : φ z0 μ) :
    J l mX11_way (jZ0 4 G (pI φ)) G 0 0 93 [.null, .null, .null, .null] [.int z0] μ := by
  exact j_iret dX11_way_93 rfl (k0 )
theorem b_X11_way_119 {l : Launch} {G : jG} {μ : jM} {φ : Int32 → jM → Prop} {z0 : Int32} (hG : gGG G) (hP : gPP μ) 
    (k0 : φ z0 μ) :
    J l mX11_way (jZ0 4 G (pI φ)) G 0 0 119 [.null, .null, .null, .null] [.int z0] μ := by
  exact j_iret dX11_way_119 rfl (k0 )
theorem b_X11_wayAt_0 {l : Launch} {G : jG} {μ : jM} {φ : Int32 → jM → Prop} {x1 x2 : Int32} {ψ0 : Int32 → jM → Prop} (hG : gGG G) (hP : gPP μ) 
    (e0 : jC0 l mX11_isGhost 0 G [.ref 0, .int x1] μ (pI ψ0)) 
    (k0 : ∀ v μ', ψ0 v μ' → J l mX11_wayAt (jZ0 4 G (pI φ)) G 0 0 5 [.ref 0, .int x1, .int x2, .null] [.int v] μ') :
    J l mX11_wayAt (jZ0 4 G (pI φ)) G 0 0 0 [.ref 0, .int x1, .int x2, .null] [] μ := by
  refine j_aload_n dX11_wayAt_0 rfl rfl ?_
  refine j_iload_n dX11_wayAt_1 rfl rfl ?_
  refine j_cV (as := [.int x1]) (rest := []) dX11_wayAt_2 rfl vw_X11_128 (hG 0 (16, 9) rfl) rfl ⟨Nat.le_of_ble_eq_true rfl, Nat.le_of_ble_eq_true rfl⟩ rfl rfl (fun _ _ => Nat.le_of_ble_eq_true rfl) (e0 ) (fun r μ' hr => ?_)
  obtain ⟨v, rfl, hr⟩ := hr
  exact k0  v μ' hr
theorem b_X11_wayAt_5 {l : Launch} {G : jG} {μ : jM} {φ : Int32 → jM → Prop} {x1 x2 z0 : Int32} {ψ1 : jM → Prop} (hG : gGG G) (hP : gPP μ) 
    (k0 : (z0 = (0 : Int32)) → φ (-1) μ) 
    (e1 : (¬ (z0 = (0 : Int32))) → (0 ≤ (x2 : Int32)) → jC0 l mX10_enter 3 G [.ref 12, .ref 52] μ (pV ψ1)) 
    (k1 : (¬ (z0 = (0 : Int32))) → (0 ≤ (x2 : Int32)) → ∀ μ', ψ1 μ' → J l mX11_wayAt (jZ0 4 G (pI φ)) G 0 0 25 [.ref 0, .int x1, .int x2, .null] [] μ') 
    (k2 : (¬ (z0 = (0 : Int32))) → (¬ (0 ≤ (x2 : Int32))) → φ (-1) μ) :
    J l mX11_wayAt (jZ0 4 G (pI φ)) G 0 0 5 [.ref 0, .int x1, .int x2, .null] [.int z0] μ := by
  refine j_if_eq 12 dX11_wayAt_5 rfl (by decide) (fun c0 => ?_) (fun c0 => ?_)
  · skip
    refine j_iconst (-1) dX11_wayAt_12 rfl (by decide) ?_
    exact j_iret dX11_wayAt_13 rfl (k0 c0)
  · skip
    refine j_iload_n dX11_wayAt_8 rfl rfl ?_
    refine j_if_ge 14 dX11_wayAt_9 rfl (by decide) (fun c1 => ?_) (fun c1 => ?_)
    · skip
      refine j_aload_n dX11_wayAt_14 rfl rfl ?_
      refine j_getR (ci := 11) (N := 9) (f := 2) (T := TX11) 12 dX11_wayAt_15 rfl (hG 0 (16, 9) rfl) rfl (by decide) fl_X11_26 rfl (hP 0 2 12 rfl) ?_
      refine j_aload_n dX11_wayAt_18 rfl rfl ?_
      refine j_getR (ci := 11) (N := 9) (f := 3) (T := TX11) 52 dX11_wayAt_19 rfl (hG 0 (16, 9) rfl) rfl (by decide) fl_X11_33 rfl (hP 0 3 52 rfl) ?_
      refine j_cV (as := [.ref 52]) (rest := []) dX11_wayAt_22 rfl vw_X11_81 (hG 12 (15, 11) rfl) rfl ⟨Nat.le_of_ble_eq_true rfl, Nat.le_of_ble_eq_true rfl⟩ rfl rfl (fun _ _ => Nat.le_of_ble_eq_true rfl) (e1 c0 c1) (fun r μ' hr => ?_)
      obtain ⟨rfl, hr⟩ := hr
      exact k1 c0 c1 μ' hr
    · skip
      refine j_iconst (-1) dX11_wayAt_12 rfl (by decide) ?_
      exact j_iret dX11_wayAt_13 rfl (k2 c0 c1)
theorem b_X11_wayAt_25 {l : Launch} {G : jG} {μ : jM} {φ : Int32 → jM → Prop} {x1 x2 : Int32} {ψ0 : Int32 → jM → Prop} (hG : gGG G) (hP : gPP μ) 
    (e0 : jC0 l mX10_findWay 3 G [.ref 12, .int x1] μ (pI ψ0)) 
    (k0 : ∀ v μ', ψ0 v μ' → J l mX11_wayAt (jZ0 4 G (pI φ)) G 0 0 33 [.ref 0, .int x1, .int x2, .null] [.int v] μ') :
    J l mX11_wayAt (jZ0 4 G (pI φ)) G 0 0 25 [.ref 0, .int x1, .int x2, .null] [] μ := by
  refine j_aload_n dX11_wayAt_25 rfl rfl ?_
  refine j_getR (ci := 11) (N := 9) (f := 2) (T := TX11) 12 dX11_wayAt_26 rfl (hG 0 (16, 9) rfl) rfl (by decide) fl_X11_26 rfl (hP 0 2 12 rfl) ?_
  refine j_iload_n dX11_wayAt_29 rfl rfl ?_
  refine j_cV (as := [.int x1]) (rest := []) dX11_wayAt_30 rfl vw_X11_148 (hG 12 (15, 11) rfl) rfl ⟨Nat.le_of_ble_eq_true rfl, Nat.le_of_ble_eq_true rfl⟩ rfl rfl (fun _ _ => Nat.le_of_ble_eq_true rfl) (e0 ) (fun r μ' hr => ?_)
  obtain ⟨v, rfl, hr⟩ := hr
  exact k0  v μ' hr
theorem b_X11_wayAt_33 {l : Launch} {G : jG} {μ : jM} {φ : Int32 → jM → Prop} {x1 x2 z0 : Int32} {y : Nat} (hG : gGG G) (hP : gPP μ) (hy : tO gWay pWay G μ y) 
    (o0 : (¬ z0 = (0 : Int32)) → vp_in x1 7) 
    (o1 : (¬ z0 = (0 : Int32)) → μ.2.2 13 (Int32.toNatClampNeg x1) = some y) 
    (k0 : (¬ z0 = (0 : Int32)) → ((μ.1 y 5) ≤ (x2 : Int32)) → φ (-1) μ) 
    (o2 : (¬ z0 = (0 : Int32)) → (¬ ((μ.1 y 5) ≤ (x2 : Int32))) → vp_in x2 8) 
    (k1 : (¬ z0 = (0 : Int32)) → (¬ ((μ.1 y 5) ≤ (x2 : Int32))) → φ (μ.1 (y + 3) (Int32.toNatClampNeg x2)) μ) 
    (k2 : (z0 = (0 : Int32)) → φ (-2) μ) :
    J l mX11_wayAt (jZ0 4 G (pI φ)) G 0 0 33 [.ref 0, .int x1, .int x2, .null] [.int z0] μ := by
  refine j_if_ne 39 dX11_wayAt_33 rfl (by decide) (fun c0 => ?_) (fun c0 => ?_)
  · skip
    refine j_aload_n dX11_wayAt_39 rfl rfl ?_
    refine j_getR (ci := 11) (N := 9) (f := 2) (T := TX11) 12 dX11_wayAt_40 rfl (hG 0 (16, 9) rfl) rfl (by decide) fl_X11_26 rfl (hP 0 2 12 rfl) ?_
    refine j_getR (ci := 10) (N := 11) (f := 3) (T := TX10) 13 dX11_wayAt_43 rfl (hG 12 (15, 11) rfl) rfl (by decide) fl_X11_151 rfl (hP 12 3 13 rfl) ?_
    refine j_iload_n dX11_wayAt_46 rfl rfl ?_
    refine j_aald' (j := (Int32.toNatClampNeg x1)) dX11_wayAt_47 rfl (hG 13 (4, 7) rfl) (o0 c0) rfl (o1 c0) ?_
    refine j_astore_n (ls' := [.ref 0, .int x1, .int x2, .ref y]) dX11_wayAt_48 rfl rfl (Nat.le_of_ble_eq_true rfl) rfl ?_
    refine j_iload_n dX11_wayAt_49 rfl rfl ?_
    refine j_aload_n dX11_wayAt_50 rfl rfl ?_
    refine j_getI (ci := 9) (N := 9) (f := 5) (T := TX9) dX11_wayAt_51 rfl (hy.1 0 (14, 9) rfl) rfl (by decide) fl_X11_164 rfl ?_
    refine j_icmp_ge 66 dX11_wayAt_54 rfl (by decide) (fun c1 => ?_) (fun c1 => ?_)
    · skip
      refine j_iconst (-1) dX11_wayAt_66 rfl (by decide) ?_
      exact j_iret dX11_wayAt_67 rfl (k0 c0 c1)
    · skip
      refine j_aload_n dX11_wayAt_57 rfl rfl ?_
      refine j_getR (ci := 9) (N := 9) (f := 4) (T := TX9) (y + 3) dX11_wayAt_58 rfl (hy.1 0 (14, 9) rfl) rfl (by decide) fl_X11_169 rfl (hy.2 0 4 3 rfl) ?_
      refine j_iload_n dX11_wayAt_61 rfl rfl ?_
      refine j_iald' (j := (Int32.toNatClampNeg x2)) dX11_wayAt_62 rfl (hy.1 3 (0, 8) rfl) (o2 c0 c1) rfl ?_
      refine j_goto 67 dX11_wayAt_63 (by decide) ?_
      exact j_iret dX11_wayAt_67 rfl (k1 c0 c1)
  · skip
    refine j_bipush (-2) dX11_wayAt_36 rfl (by decide) ?_
    exact j_iret dX11_wayAt_38 rfl (k2 c0)
theorem b_X11_gate_0 {l : Launch} {G : jG} {μ : jM} {φ : Int32 → jM → Prop} {x1 x2 : Int32} {ψ0 : Int32 → jM → Prop} (hG : gGG G) (hP : gPP μ) 
    (e0 : jC0 l mX11_isRoad 0 G [.ref 0, .int x1] μ (pI ψ0)) 
    (k0 : ∀ v μ', ψ0 v μ' → J l mX11_gate (jZ0 3 G (pI φ)) G 0 0 5 [.ref 0, .int x1, .int x2, .null] [.int v] μ') :
    J l mX11_gate (jZ0 3 G (pI φ)) G 0 0 0 [.ref 0, .int x1, .int x2, .null] [] μ := by
  refine j_aload_n dX11_gate_0 rfl rfl ?_
  refine j_iload_n dX11_gate_1 rfl rfl ?_
  refine j_cV (as := [.int x1]) (rest := []) dX11_gate_2 rfl vw_X11_105 (hG 0 (16, 9) rfl) rfl ⟨Nat.le_of_ble_eq_true rfl, Nat.le_of_ble_eq_true rfl⟩ rfl rfl (fun _ _ => Nat.le_of_ble_eq_true rfl) (e0 ) (fun r μ' hr => ?_)
  obtain ⟨v, rfl, hr⟩ := hr
  exact k0  v μ' hr
theorem b_X11_gate_5 {l : Launch} {G : jG} {μ : jM} {φ : Int32 → jM → Prop} {x1 x2 z0 : Int32} {ψ0 : jM → Prop} {ψ2 : jM → Prop} (hG : gGG G) (hP : gPP μ) 
    (e0 : (¬ z0 = (0 : Int32)) → ((((μ.1 53 4) >>> (x1 &&& 31)) &&& 1) = (0 : Int32)) → (¬ 0 = (x2 : Int32)) → jC0 l mX11_beginThing 2 G [.ref 0] μ (pV ψ0)) 
    (k0 : (¬ z0 = (0 : Int32)) → ((((μ.1 53 4) >>> (x1 &&& 31)) &&& 1) = (0 : Int32)) → (¬ 0 = (x2 : Int32)) → ∀ μ', ψ0 μ' → J l mX11_gate (jZ0 3 G (pI φ)) G 0 0 43 [.ref 0, .int x1, .null, .int (μ.1 53 4)] [] μ') 
    (k1 : (¬ z0 = (0 : Int32)) → ((((μ.1 53 4) >>> (x1 &&& 31)) &&& 1) = (0 : Int32)) → (0 = (x2 : Int32)) → φ 0 μ) 
    (e2 : (¬ z0 = (0 : Int32)) → (¬ ((((μ.1 53 4) >>> (x1 &&& 31)) &&& 1) = (0 : Int32))) → (¬ 1 = (x2 : Int32)) → jC0 l mX11_beginThing 2 G [.ref 0] μ (pV ψ2)) 
    (k2 : (¬ z0 = (0 : Int32)) → (¬ ((((μ.1 53 4) >>> (x1 &&& 31)) &&& 1) = (0 : Int32))) → (¬ 1 = (x2 : Int32)) → ∀ μ', ψ2 μ' → J l mX11_gate (jZ0 3 G (pI φ)) G 0 0 43 [.ref 0, .int x1, .null, .int (μ.1 53 4)] [] μ') 
    (k3 : (¬ z0 = (0 : Int32)) → (¬ ((((μ.1 53 4) >>> (x1 &&& 31)) &&& 1) = (0 : Int32))) → (1 = (x2 : Int32)) → φ 0 μ) 
    (k4 : (z0 = (0 : Int32)) → φ 0 μ) :
    J l mX11_gate (jZ0 3 G (pI φ)) G 0 0 5 [.ref 0, .int x1, .int x2, .null] [.int z0] μ := by
  refine j_if_ne 10 dX11_gate_5 rfl (by decide) (fun c0 => ?_) (fun c0 => ?_)
  · skip
    refine j_aload_n dX11_gate_10 rfl rfl ?_
    refine j_getR (ci := 11) (N := 9) (f := 3) (T := TX11) 52 dX11_gate_11 rfl (hG 0 (16, 9) rfl) rfl (by decide) fl_X11_33 rfl (hP 0 3 52 rfl) ?_
    refine j_getR (ci := 5) (N := 1) (f := 0) (T := TX5) 53 dX11_gate_14 rfl (hG 52 (10, 1) rfl) rfl (by decide) fl_X11_122 rfl (hP 52 0 53 rfl) ?_
    refine j_iconst 4 dX11_gate_17 rfl (by decide) ?_
    refine j_iald' (j := 4) dX11_gate_18 rfl (hG 53 (0, 71) rfl) (vpK (by decide)) (by decide) ?_
    refine j_istore_n (ls' := [.ref 0, .int x1, .int x2, .int (μ.1 53 4)]) dX11_gate_19 rfl rfl (Nat.le_of_ble_eq_true rfl) rfl ?_
    refine j_iload_n dX11_gate_20 rfl rfl ?_
    refine j_iload_n dX11_gate_21 rfl rfl ?_
    refine j_ishr dX11_gate_22 rfl ?_
    refine j_iconst 1 dX11_gate_23 rfl (by decide) ?_
    refine j_iand dX11_gate_24 rfl ?_
    refine j_if_eq 32 dX11_gate_25 rfl (by decide) (fun c1 => ?_) (fun c1 => ?_)
    · skip
      refine j_iconst 0 dX11_gate_32 rfl (by decide) ?_
      refine j_iload_n dX11_gate_33 rfl rfl ?_
      refine j_icmp_ne 39 dX11_gate_34 rfl (by decide) (fun c2 => ?_) (fun c2 => ?_)
      · skip
        refine j_aload_n dX11_gate_39 rfl rfl ?_
        refine j_cV (as := []) (rest := []) dX11_gate_40 rfl vw_X11_172 (hG 0 (16, 9) rfl) rfl ⟨Nat.le_of_ble_eq_true rfl, Nat.le_of_ble_eq_true rfl⟩ rfl rfl (fun _ _ => Nat.le_of_ble_eq_true rfl) (e0 c0 c1 c2) (fun r μ' hr => ?_)
        obtain ⟨rfl, hr⟩ := hr
        refine j_forget (ls' := [.ref 0, .int x1, .null, .int (μ.1 53 4)]) ⟨Or.inr rfl, Or.inr rfl, Or.inl rfl, Or.inr rfl, trivial⟩ ?_
        exact k0 c0 c1 c2 μ' hr
      · skip
        refine j_iconst 0 dX11_gate_37 rfl (by decide) ?_
        exact j_zret dX11_gate_38 rfl (by decide) (k1 c0 c1 c2)
    · skip
      refine j_iconst 1 dX11_gate_28 rfl (by decide) ?_
      refine j_goto 33 dX11_gate_29 (by decide) ?_
      refine j_iload_n dX11_gate_33 rfl rfl ?_
      refine j_icmp_ne 39 dX11_gate_34 rfl (by decide) (fun c3 => ?_) (fun c3 => ?_)
      · skip
        refine j_aload_n dX11_gate_39 rfl rfl ?_
        refine j_cV (as := []) (rest := []) dX11_gate_40 rfl vw_X11_172 (hG 0 (16, 9) rfl) rfl ⟨Nat.le_of_ble_eq_true rfl, Nat.le_of_ble_eq_true rfl⟩ rfl rfl (fun _ _ => Nat.le_of_ble_eq_true rfl) (e2 c0 c1 c3) (fun r μ' hr => ?_)
        obtain ⟨rfl, hr⟩ := hr
        refine j_forget (ls' := [.ref 0, .int x1, .null, .int (μ.1 53 4)]) ⟨Or.inr rfl, Or.inr rfl, Or.inl rfl, Or.inr rfl, trivial⟩ ?_
        exact k2 c0 c1 c3 μ' hr
      · skip
        refine j_iconst 0 dX11_gate_37 rfl (by decide) ?_
        exact j_zret dX11_gate_38 rfl (by decide) (k3 c0 c1 c3)
  · skip
    refine j_iconst 0 dX11_gate_8 rfl (by decide) ?_
    exact j_zret dX11_gate_9 rfl (by decide) (k4 c0)
theorem b_X11_gate_43 {l : Launch} {G : jG} {μ : jM} {φ : Int32 → jM → Prop} {x1 x3 : Int32} (hG : gGG G) (hP : gPP μ) 
    (k0 : φ 1 (wI μ 53 4 (x3 ^^^ (1 <<< (x1 &&& 31))))) :
    J l mX11_gate (jZ0 3 G (pI φ)) G 0 0 43 [.ref 0, .int x1, .null, .int x3] [] μ := by
  refine j_aload_n dX11_gate_43 rfl rfl ?_
  refine j_getR (ci := 11) (N := 9) (f := 3) (T := TX11) 52 dX11_gate_44 rfl (hG 0 (16, 9) rfl) rfl (by decide) fl_X11_33 rfl (hP 0 3 52 rfl) ?_
  refine j_getR (ci := 5) (N := 1) (f := 0) (T := TX5) 53 dX11_gate_47 rfl (hG 52 (10, 1) rfl) rfl (by decide) fl_X11_122 rfl (hP 52 0 53 rfl) ?_
  refine j_iconst 4 dX11_gate_50 rfl (by decide) ?_
  refine j_iload_n dX11_gate_51 rfl rfl ?_
  refine j_iconst 1 dX11_gate_52 rfl (by decide) ?_
  refine j_iload_n dX11_gate_53 rfl rfl ?_
  refine j_ishl dX11_gate_54 rfl ?_
  refine j_ixor dX11_gate_55 rfl ?_
  refine j_iast' (j := 4) dX11_gate_56 rfl (hG 53 (0, 71) rfl) (vpK (by decide)) (by decide) ?_
  refine j_iconst 1 dX11_gate_57 rfl (by decide) ?_
  exact j_zret dX11_gate_58 rfl (by decide) (k0 )
theorem b_X11_rate_0 {l : Launch} {G : jG} {μ : jM} {φ : Int32 → jM → Prop} {x1 : Int32} {ψ2 : jM → Prop} (hG : gGG G) (hP : gPP μ) 
    (k0 : (x1 < (0 : Int32)) → φ 0 μ) 
    (k1 : (¬ (x1 < (0 : Int32))) → (9 < (x1 : Int32)) → φ 0 μ) 
    (e2 : (¬ (x1 < (0 : Int32))) → (¬ (9 < (x1 : Int32))) → (¬ x1 = ((μ.1 53 1) : Int32)) → jC0 l mX11_beginThing 2 G [.ref 0] μ (pV ψ2)) 
    (k2 : (¬ (x1 < (0 : Int32))) → (¬ (9 < (x1 : Int32))) → (¬ x1 = ((μ.1 53 1) : Int32)) → ∀ μ', ψ2 μ' → J l mX11_rate (jZ0 3 G (pI φ)) G 0 0 29 [.ref 0, .int x1] [] μ') 
    (k3 : (¬ (x1 < (0 : Int32))) → (¬ (9 < (x1 : Int32))) → (x1 = ((μ.1 53 1) : Int32)) → φ 0 μ) :
    J l mX11_rate (jZ0 3 G (pI φ)) G 0 0 0 [.ref 0, .int x1] [] μ := by
  refine j_iload_n dX11_rate_0 rfl rfl ?_
  refine j_if_lt 23 dX11_rate_1 rfl (by decide) (fun c0 => ?_) (fun c0 => ?_)
  · skip
    refine j_iconst 0 dX11_rate_23 rfl (by decide) ?_
    exact j_zret dX11_rate_24 rfl (by decide) (k0 c0)
  · skip
    refine j_iload_n dX11_rate_4 rfl rfl ?_
    refine j_bipush 9 dX11_rate_5 rfl (by decide) ?_
    refine j_icmp_gt 23 dX11_rate_7 rfl (by decide) (fun c1 => ?_) (fun c1 => ?_)
    · skip
      refine j_iconst 0 dX11_rate_23 rfl (by decide) ?_
      exact j_zret dX11_rate_24 rfl (by decide) (k1 c0 c1)
    · skip
      refine j_iload_n dX11_rate_10 rfl rfl ?_
      refine j_aload_n dX11_rate_11 rfl rfl ?_
      refine j_getR (ci := 11) (N := 9) (f := 3) (T := TX11) 52 dX11_rate_12 rfl (hG 0 (16, 9) rfl) rfl (by decide) fl_X11_33 rfl (hP 0 3 52 rfl) ?_
      refine j_getR (ci := 5) (N := 1) (f := 0) (T := TX5) 53 dX11_rate_15 rfl (hG 52 (10, 1) rfl) rfl (by decide) fl_X11_122 rfl (hP 52 0 53 rfl) ?_
      refine j_iconst 1 dX11_rate_18 rfl (by decide) ?_
      refine j_iald' (j := 1) dX11_rate_19 rfl (hG 53 (0, 71) rfl) (vpK (by decide)) (by decide) ?_
      refine j_icmp_ne 25 dX11_rate_20 rfl (by decide) (fun c2 => ?_) (fun c2 => ?_)
      · skip
        refine j_aload_n dX11_rate_25 rfl rfl ?_
        refine j_cV (as := []) (rest := []) dX11_rate_26 rfl vw_X11_172 (hG 0 (16, 9) rfl) rfl ⟨Nat.le_of_ble_eq_true rfl, Nat.le_of_ble_eq_true rfl⟩ rfl rfl (fun _ _ => Nat.le_of_ble_eq_true rfl) (e2 c0 c1 c2) (fun r μ' hr => ?_)
        obtain ⟨rfl, hr⟩ := hr
        exact k2 c0 c1 c2 μ' hr
      · skip
        refine j_iconst 0 dX11_rate_23 rfl (by decide) ?_
        exact j_zret dX11_rate_24 rfl (by decide) (k3 c0 c1 c2)
theorem b_X11_rate_29 {l : Launch} {G : jG} {μ : jM} {φ : Int32 → jM → Prop} {x1 : Int32} {ψ0 : jM → Prop} (hG : gGG G) (hP : gPP μ) 
    (e0 : jC0 l mX5_setRates 0 G [.ref 52, .int x1, .int x1] μ (pV ψ0)) 
    (k0 : ∀ μ', ψ0 μ' → J l mX11_rate (jZ0 3 G (pI φ)) G 0 0 38 [.null, .null] [] μ') :
    J l mX11_rate (jZ0 3 G (pI φ)) G 0 0 29 [.ref 0, .int x1] [] μ := by
  refine j_aload_n dX11_rate_29 rfl rfl ?_
  refine j_getR (ci := 11) (N := 9) (f := 3) (T := TX11) 52 dX11_rate_30 rfl (hG 0 (16, 9) rfl) rfl (by decide) fl_X11_33 rfl (hP 0 3 52 rfl) ?_
  refine j_iload_n dX11_rate_33 rfl rfl ?_
  refine j_iload_n dX11_rate_34 rfl rfl ?_
  refine j_cV (as := [.int x1, .int x1]) (rest := []) dX11_rate_35 rfl vw_X11_175 (hG 52 (10, 1) rfl) rfl ⟨Nat.le_of_ble_eq_true rfl, Nat.le_of_ble_eq_true rfl⟩ rfl rfl (fun _ _ => Nat.le_of_ble_eq_true rfl) (e0 ) (fun r μ' hr => ?_)
  obtain ⟨rfl, hr⟩ := hr
  refine j_forget (ls' := [.null, .null]) ⟨Or.inl rfl, Or.inl rfl, trivial⟩ ?_
  exact k0  μ' hr
theorem b_X11_rate_38 {l : Launch} {G : jG} {μ : jM} {φ : Int32 → jM → Prop} (hG : gGG G) (hP : gPP μ) 
    (k0 : φ 1 μ) :
    J l mX11_rate (jZ0 3 G (pI φ)) G 0 0 38 [.null, .null] [] μ := by
  refine j_iconst 1 dX11_rate_38 rfl (by decide) ?_
  exact j_zret dX11_rate_39 rfl (by decide) (k0 )
theorem b_X11_mend_0 {l : Launch} {G : jG} {μ : jM} {φ : Int32 → jM → Prop} {x1 : Int32} {ψ0 : Int32 → jM → Prop} (hG : gGG G) (hP : gPP μ) 
    (e0 : jC0 l mX11_isRoad 0 G [.ref 0, .int x1] μ (pI ψ0)) 
    (k0 : ∀ v μ', ψ0 v μ' → J l mX11_mend (jZ0 3 G (pI φ)) G 0 0 5 [.ref 0, .int x1, .null, .null] [.int v] μ') :
    J l mX11_mend (jZ0 3 G (pI φ)) G 0 0 0 [.ref 0, .int x1, .null, .null] [] μ := by
  refine j_aload_n dX11_mend_0 rfl rfl ?_
  refine j_iload_n dX11_mend_1 rfl rfl ?_
  refine j_cV (as := [.int x1]) (rest := []) dX11_mend_2 rfl vw_X11_105 (hG 0 (16, 9) rfl) rfl ⟨Nat.le_of_ble_eq_true rfl, Nat.le_of_ble_eq_true rfl⟩ rfl rfl (fun _ _ => Nat.le_of_ble_eq_true rfl) (e0 ) (fun r μ' hr => ?_)
  obtain ⟨v, rfl, hr⟩ := hr
  exact k0  v μ' hr
theorem b_X11_mend_5 {l : Launch} {G : jG} {μ : jM} {φ : Int32 → jM → Prop} {x1 z0 : Int32} {ψ1 : jM → Prop} (hG : gGG G) (hP : gPP μ) 
    (o0 : (¬ z0 = (0 : Int32)) → vp_in (7 + x1) 71) 
    (k0 : (¬ z0 = (0 : Int32)) → ((μ.1 53 (Int32.toNatClampNeg (7 + x1))) = (0 : Int32)) → φ (-2) μ) 
    (e1 : (¬ z0 = (0 : Int32)) → (¬ ((μ.1 53 (Int32.toNatClampNeg (7 + x1))) = (0 : Int32))) → ((μ.1 53 (Int32.toNatClampNeg (7 + x1))) ≤ ((μ.1 53 3) : Int32)) → jC0 l mX11_beginThing 2 G [.ref 0] μ (pV ψ1)) 
    (k1 : (¬ z0 = (0 : Int32)) → (¬ ((μ.1 53 (Int32.toNatClampNeg (7 + x1))) = (0 : Int32))) → ((μ.1 53 (Int32.toNatClampNeg (7 + x1))) ≤ ((μ.1 53 3) : Int32)) → ∀ μ', ψ1 μ' → J l mX11_mend (jZ0 3 G (pI φ)) G 0 0 49 [.ref 0, .int x1, .int (μ.1 53 (Int32.toNatClampNeg (7 + x1))), .int (μ.1 53 3)] [] μ') 
    (k2 : (¬ z0 = (0 : Int32)) → (¬ ((μ.1 53 (Int32.toNatClampNeg (7 + x1))) = (0 : Int32))) → (¬ ((μ.1 53 (Int32.toNatClampNeg (7 + x1))) ≤ ((μ.1 53 3) : Int32))) → φ (-2) μ) 
    (k3 : (z0 = (0 : Int32)) → φ (-1) μ) :
    J l mX11_mend (jZ0 3 G (pI φ)) G 0 0 5 [.ref 0, .int x1, .null, .null] [.int z0] μ := by
  refine j_if_ne 10 dX11_mend_5 rfl (by decide) (fun c0 => ?_) (fun c0 => ?_)
  · skip
    refine j_aload_n dX11_mend_10 rfl rfl ?_
    refine j_getR (ci := 11) (N := 9) (f := 3) (T := TX11) 52 dX11_mend_11 rfl (hG 0 (16, 9) rfl) rfl (by decide) fl_X11_33 rfl (hP 0 3 52 rfl) ?_
    refine j_getR (ci := 5) (N := 1) (f := 0) (T := TX5) 53 dX11_mend_14 rfl (hG 52 (10, 1) rfl) rfl (by decide) fl_X11_122 rfl (hP 52 0 53 rfl) ?_
    refine j_bipush 7 dX11_mend_17 rfl (by decide) ?_
    refine j_iload_n dX11_mend_19 rfl rfl ?_
    refine j_iadd dX11_mend_20 rfl ?_
    refine j_iald' (j := (Int32.toNatClampNeg (7 + x1))) dX11_mend_21 rfl (hG 53 (0, 71) rfl) (o0 c0) rfl ?_
    refine j_istore_n (ls' := [.ref 0, .int x1, .int (μ.1 53 (Int32.toNatClampNeg (7 + x1))), .null]) dX11_mend_22 rfl rfl (Nat.le_of_ble_eq_true rfl) rfl ?_
    refine j_aload_n dX11_mend_23 rfl rfl ?_
    refine j_getR (ci := 11) (N := 9) (f := 3) (T := TX11) 52 dX11_mend_24 rfl (hG 0 (16, 9) rfl) rfl (by decide) fl_X11_33 rfl (hP 0 3 52 rfl) ?_
    refine j_getR (ci := 5) (N := 1) (f := 0) (T := TX5) 53 dX11_mend_27 rfl (hG 52 (10, 1) rfl) rfl (by decide) fl_X11_122 rfl (hP 52 0 53 rfl) ?_
    refine j_iconst 3 dX11_mend_30 rfl (by decide) ?_
    refine j_iald' (j := 3) dX11_mend_31 rfl (hG 53 (0, 71) rfl) (vpK (by decide)) (by decide) ?_
    refine j_istore_n (ls' := [.ref 0, .int x1, .int (μ.1 53 (Int32.toNatClampNeg (7 + x1))), .int (μ.1 53 3)]) dX11_mend_32 rfl rfl (Nat.le_of_ble_eq_true rfl) rfl ?_
    refine j_iload_n dX11_mend_33 rfl rfl ?_
    refine j_if_eq 42 dX11_mend_34 rfl (by decide) (fun c1 => ?_) (fun c1 => ?_)
    · skip
      refine j_bipush (-2) dX11_mend_42 rfl (by decide) ?_
      exact j_iret dX11_mend_44 rfl (k0 c0 c1)
    · skip
      refine j_iload_n dX11_mend_37 rfl rfl ?_
      refine j_iload_n dX11_mend_38 rfl rfl ?_
      refine j_icmp_le 45 dX11_mend_39 rfl (by decide) (fun c2 => ?_) (fun c2 => ?_)
      · skip
        refine j_aload_n dX11_mend_45 rfl rfl ?_
        refine j_cV (as := []) (rest := []) dX11_mend_46 rfl vw_X11_172 (hG 0 (16, 9) rfl) rfl ⟨Nat.le_of_ble_eq_true rfl, Nat.le_of_ble_eq_true rfl⟩ rfl rfl (fun _ _ => Nat.le_of_ble_eq_true rfl) (e1 c0 c1 c2) (fun r μ' hr => ?_)
        obtain ⟨rfl, hr⟩ := hr
        exact k1 c0 c1 c2 μ' hr
      · skip
        refine j_bipush (-2) dX11_mend_42 rfl (by decide) ?_
        exact j_iret dX11_mend_44 rfl (k2 c0 c1 c2)
  · skip
    refine j_iconst (-1) dX11_mend_8 rfl (by decide) ?_
    exact j_iret dX11_mend_9 rfl (k3 c0)
theorem b_X11_mend_49 {l : Launch} {G : jG} {μ : jM} {φ : Int32 → jM → Prop} {x1 x2 x3 : Int32} (hG : gGG G) (hP : gPP μ) 
    (o0 : vp_in (7 + x1) 71) 
    (k0 : φ (x3 - x2) (wI (wI μ 53 (Int32.toNatClampNeg (7 + x1)) 0) 53 3 (x3 - x2))) :
    J l mX11_mend (jZ0 3 G (pI φ)) G 0 0 49 [.ref 0, .int x1, .int x2, .int x3] [] μ := by
  refine j_aload_n dX11_mend_49 rfl rfl ?_
  refine j_getR (ci := 11) (N := 9) (f := 3) (T := TX11) 52 dX11_mend_50 rfl (hG 0 (16, 9) rfl) rfl (by decide) fl_X11_33 rfl (hP 0 3 52 rfl) ?_
  refine j_getR (ci := 5) (N := 1) (f := 0) (T := TX5) 53 dX11_mend_53 rfl (hG 52 (10, 1) rfl) rfl (by decide) fl_X11_122 rfl (hP 52 0 53 rfl) ?_
  refine j_bipush 7 dX11_mend_56 rfl (by decide) ?_
  refine j_iload_n dX11_mend_58 rfl rfl ?_
  refine j_iadd dX11_mend_59 rfl ?_
  refine j_iconst 0 dX11_mend_60 rfl (by decide) ?_
  refine j_iast' (j := (Int32.toNatClampNeg (7 + x1))) dX11_mend_61 rfl (hG 53 (0, 71) rfl) o0 rfl ?_
  refine j_aload_n dX11_mend_62 rfl rfl ?_
  refine j_getR (ci := 11) (N := 9) (f := 3) (T := TX11) 52 dX11_mend_63 rfl (hG 0 (16, 9) rfl) rfl (by decide) fl_X11_33 rfl (hP 0 3 52 rfl) ?_
  refine j_getR (ci := 5) (N := 1) (f := 0) (T := TX5) 53 dX11_mend_66 rfl (hG 52 (10, 1) rfl) rfl (by decide) fl_X11_122 rfl (hP 52 0 53 rfl) ?_
  refine j_iconst 3 dX11_mend_69 rfl (by decide) ?_
  refine j_iload_n dX11_mend_70 rfl rfl ?_
  refine j_iload_n dX11_mend_71 rfl rfl ?_
  refine j_isub dX11_mend_72 rfl ?_
  refine j_iast' (j := 3) dX11_mend_73 rfl (hG 53 (0, 71) rfl) (vpK (by decide)) (by decide) ?_
  refine j_iload_n dX11_mend_74 rfl rfl ?_
  refine j_iload_n dX11_mend_75 rfl rfl ?_
  refine j_isub dX11_mend_76 rfl ?_
  exact j_iret dX11_mend_77 rfl (k0 )
theorem b_X11_nights_0 {l : Launch} {G : jG} {μ : jM} {φ : Int32 → jM → Prop} {x1 : Int32} {ψ2 : jM → Prop} (hG : gGG G) (hP : gPP μ) 
    (k0 : (x1 < (0 : Int32)) → φ (-1) μ) 
    (k1 : (¬ (x1 < (0 : Int32))) → (x1 ≤ (30 : Int32)) → (x1 ≤ (0 : Int32)) → φ (μ.1 53 0) μ) 
    (e2 : (¬ (x1 < (0 : Int32))) → (x1 ≤ (30 : Int32)) → (¬ (x1 ≤ (0 : Int32))) → jC0 l mX11_beginThing 2 G [.ref 0] μ (pV ψ2)) 
    (k2 : (¬ (x1 < (0 : Int32))) → (x1 ≤ (30 : Int32)) → (¬ (x1 ≤ (0 : Int32))) → ∀ μ', ψ2 μ' → J l mX11_nights (jZ0 6 G (pI φ)) G 0 0 20 [.ref 0, .int x1] [] μ') 
    (k3 : (¬ (x1 < (0 : Int32))) → (¬ (x1 ≤ (30 : Int32))) → φ (-1) μ) :
    J l mX11_nights (jZ0 6 G (pI φ)) G 0 0 0 [.ref 0, .int x1] [] μ := by
  refine j_iload_n dX11_nights_0 rfl rfl ?_
  refine j_if_lt 10 dX11_nights_1 rfl (by decide) (fun c0 => ?_) (fun c0 => ?_)
  · skip
    refine j_iconst (-1) dX11_nights_10 rfl (by decide) ?_
    exact j_iret dX11_nights_11 rfl (k0 c0)
  · skip
    refine j_iload_n dX11_nights_4 rfl rfl ?_
    refine j_bipush 30 dX11_nights_5 rfl (by decide) ?_
    refine j_icmp_le 12 dX11_nights_7 rfl (by decide) (fun c1 => ?_) (fun c1 => ?_)
    · skip
      refine j_iload_n dX11_nights_12 rfl rfl ?_
      refine j_if_le 39 dX11_nights_13 rfl (by decide) (fun c2 => ?_) (fun c2 => ?_)
      · skip
        refine j_aload_n dX11_nights_39 rfl rfl ?_
        refine j_getR (ci := 11) (N := 9) (f := 3) (T := TX11) 52 dX11_nights_40 rfl (hG 0 (16, 9) rfl) rfl (by decide) fl_X11_33 rfl (hP 0 3 52 rfl) ?_
        refine j_getR (ci := 5) (N := 1) (f := 0) (T := TX5) 53 dX11_nights_43 rfl (hG 52 (10, 1) rfl) rfl (by decide) fl_X11_122 rfl (hP 52 0 53 rfl) ?_
        refine j_iconst 0 dX11_nights_46 rfl (by decide) ?_
        refine j_iald' (j := 0) dX11_nights_47 rfl (hG 53 (0, 71) rfl) (vpK (by decide)) (by decide) ?_
        exact j_iret dX11_nights_48 rfl (k1 c0 c1 c2)
      · skip
        refine j_aload_n dX11_nights_16 rfl rfl ?_
        refine j_cV (as := []) (rest := []) dX11_nights_17 rfl vw_X11_172 (hG 0 (16, 9) rfl) rfl ⟨Nat.le_of_ble_eq_true rfl, Nat.le_of_ble_eq_true rfl⟩ rfl rfl (fun _ _ => Nat.le_of_ble_eq_true rfl) (e2 c0 c1 c2) (fun r μ' hr => ?_)
        obtain ⟨rfl, hr⟩ := hr
        exact k2 c0 c1 c2 μ' hr
    · skip
      refine j_iconst (-1) dX11_nights_10 rfl (by decide) ?_
      exact j_iret dX11_nights_11 rfl (k3 c0 c1)
theorem b_X11_nights_20 {l : Launch} {G : jG} {μ : jM} {φ : Int32 → jM → Prop} {x1 : Int32} {ψ0 : jM → Prop} (hG : gGG G) (hP : gPP μ) 
    (e0 : jC0 l mX10_enter 3 G [.ref 12, .ref 52] μ (pV ψ0)) 
    (k0 : ∀ μ', ψ0 μ' → J l mX11_nights (jZ0 6 G (pI φ)) G 0 0 31 [.ref 0, .int x1] [] μ') :
    J l mX11_nights (jZ0 6 G (pI φ)) G 0 0 20 [.ref 0, .int x1] [] μ := by
  refine j_aload_n dX11_nights_20 rfl rfl ?_
  refine j_getR (ci := 11) (N := 9) (f := 2) (T := TX11) 12 dX11_nights_21 rfl (hG 0 (16, 9) rfl) rfl (by decide) fl_X11_26 rfl (hP 0 2 12 rfl) ?_
  refine j_aload_n dX11_nights_24 rfl rfl ?_
  refine j_getR (ci := 11) (N := 9) (f := 3) (T := TX11) 52 dX11_nights_25 rfl (hG 0 (16, 9) rfl) rfl (by decide) fl_X11_33 rfl (hP 0 3 52 rfl) ?_
  refine j_cV (as := [.ref 52]) (rest := []) dX11_nights_28 rfl vw_X11_81 (hG 12 (15, 11) rfl) rfl ⟨Nat.le_of_ble_eq_true rfl, Nat.le_of_ble_eq_true rfl⟩ rfl rfl (fun _ _ => Nat.le_of_ble_eq_true rfl) (e0 ) (fun r μ' hr => ?_)
  obtain ⟨rfl, hr⟩ := hr
  exact k0  μ' hr
theorem b_X11_nights_31 {l : Launch} {G : jG} {μ : jM} {φ : Int32 → jM → Prop} {x1 : Int32} {ψ0 : jM → Prop} (hG : gGG G) (hP : gPP μ) 
    (e0 : jC0 l mX10_passNights 5 G [.ref 12, .int x1] μ (pV ψ0)) 
    (k0 : ∀ μ', ψ0 μ' → J l mX11_nights (jZ0 6 G (pI φ)) G 0 0 39 [.ref 0, .null] [] μ') :
    J l mX11_nights (jZ0 6 G (pI φ)) G 0 0 31 [.ref 0, .int x1] [] μ := by
  refine j_aload_n dX11_nights_31 rfl rfl ?_
  refine j_getR (ci := 11) (N := 9) (f := 2) (T := TX11) 12 dX11_nights_32 rfl (hG 0 (16, 9) rfl) rfl (by decide) fl_X11_26 rfl (hP 0 2 12 rfl) ?_
  refine j_iload_n dX11_nights_35 rfl rfl ?_
  refine j_cV (as := [.int x1]) (rest := []) dX11_nights_36 rfl vw_X11_179 (hG 12 (15, 11) rfl) rfl ⟨Nat.le_of_ble_eq_true rfl, Nat.le_of_ble_eq_true rfl⟩ rfl rfl (fun _ _ => Nat.le_of_ble_eq_true rfl) (e0 ) (fun r μ' hr => ?_)
  obtain ⟨rfl, hr⟩ := hr
  refine j_forget (ls' := [.ref 0, .null]) ⟨Or.inr rfl, Or.inl rfl, trivial⟩ ?_
  exact k0  μ' hr
theorem b_X11_nights_39 {l : Launch} {G : jG} {μ : jM} {φ : Int32 → jM → Prop} (hG : gGG G) (hP : gPP μ) 
    (k0 : φ (μ.1 53 0) μ) :
    J l mX11_nights (jZ0 6 G (pI φ)) G 0 0 39 [.ref 0, .null] [] μ := by
  refine j_aload_n dX11_nights_39 rfl rfl ?_
  refine j_getR (ci := 11) (N := 9) (f := 3) (T := TX11) 52 dX11_nights_40 rfl (hG 0 (16, 9) rfl) rfl (by decide) fl_X11_33 rfl (hP 0 3 52 rfl) ?_
  refine j_getR (ci := 5) (N := 1) (f := 0) (T := TX5) 53 dX11_nights_43 rfl (hG 52 (10, 1) rfl) rfl (by decide) fl_X11_122 rfl (hP 52 0 53 rfl) ?_
  refine j_iconst 0 dX11_nights_46 rfl (by decide) ?_
  refine j_iald' (j := 0) dX11_nights_47 rfl (hG 53 (0, 71) rfl) (vpK (by decide)) (by decide) ?_
  exact j_iret dX11_nights_48 rfl (k0 )
theorem b_X11_undo_0 {l : Launch} {G : jG} {μ : jM} {φ : Int32 → jM → Prop} {ψ0 : jM → Prop} (hG : gGG G) (hP : gPP μ) 
    (e0 : jC0 l mX1_outdate 0 G [.ref 57] μ (pV ψ0)) 
    (k0 : ∀ μ', ψ0 μ' → J l mX11_undo (jZ0 2 G (pI φ)) G 0 0 7 [.ref 0] [] μ') :
    J l mX11_undo (jZ0 2 G (pI φ)) G 0 0 0 [.ref 0] [] μ := by
  refine j_aload_n dX11_undo_0 rfl rfl ?_
  refine j_getR (ci := 11) (N := 9) (f := 5) (T := TX11) 57 dX11_undo_1 rfl (hG 0 (16, 9) rfl) rfl (by decide) fl_X11_49 rfl (hP 0 5 57 rfl) ?_
  refine j_cV (as := []) (rest := []) dX11_undo_4 rfl vw_X11_102 (hG 57 (6, 9) rfl) rfl ⟨Nat.le_of_ble_eq_true rfl, Nat.le_of_ble_eq_true rfl⟩ rfl rfl (fun _ _ => Nat.le_of_ble_eq_true rfl) (e0 ) (fun r μ' hr => ?_)
  obtain ⟨rfl, hr⟩ := hr
  exact k0  μ' hr
theorem b_X11_undo_7 {l : Launch} {G : jG} {μ : jM} {φ : Int32 → jM → Prop} {ψ0 : Int32 → jM → Prop} (hG : gGG G) (hP : gPP μ) 
    (e0 : jC0 l mX3_takeBack 1 G [.ref 54, .ref 52] μ (pI ψ0)) 
    (k0 : ∀ v μ', ψ0 v μ' → J l mX11_undo (jZ0 2 G (pI φ)) G 0 0 18 [.null] [.int v] μ') :
    J l mX11_undo (jZ0 2 G (pI φ)) G 0 0 7 [.ref 0] [] μ := by
  refine j_aload_n dX11_undo_7 rfl rfl ?_
  refine j_getR (ci := 11) (N := 9) (f := 4) (T := TX11) 54 dX11_undo_8 rfl (hG 0 (16, 9) rfl) rfl (by decide) fl_X11_40 rfl (hP 0 4 54 rfl) ?_
  refine j_aload_n dX11_undo_11 rfl rfl ?_
  refine j_getR (ci := 11) (N := 9) (f := 3) (T := TX11) 52 dX11_undo_12 rfl (hG 0 (16, 9) rfl) rfl (by decide) fl_X11_33 rfl (hP 0 3 52 rfl) ?_
  refine j_cV (as := [.ref 52]) (rest := []) dX11_undo_15 rfl vw_X11_182 (hG 54 (8, 5) rfl) rfl ⟨Nat.le_of_ble_eq_true rfl, Nat.le_of_ble_eq_true rfl⟩ rfl rfl (fun _ _ => Nat.le_of_ble_eq_true rfl) (e0 ) (fun r μ' hr => ?_)
  obtain ⟨v, rfl, hr⟩ := hr
  refine j_forget (ls' := [.null]) ⟨Or.inl rfl, trivial⟩ ?_
  exact k0  v μ' hr
theorem b_X11_undo_18 {l : Launch} {G : jG} {μ : jM} {φ : Int32 → jM → Prop} {z0 : Int32} (hG : gGG G) (hP : gPP μ) 
    (k0 : φ z0 μ) 
    (o0 : z0 = (0 : Int32) ∨ z0 = (1 : Int32)) :
    J l mX11_undo (jZ0 2 G (pI φ)) G 0 0 18 [.null] [.int z0] μ := by
  exact j_zret dX11_undo_18 rfl o0 (k0 )
theorem b_X11_tonight_0 {l : Launch} {G : jG} {μ : jM} {φ : Int32 → jM → Prop} {x1 : Int32} {ψ1 : jM → Prop} (hG : gGG G) (hP : gPP μ) 
    (k0 : (x1 < (0 : Int32)) → φ (-1) μ) 
    (e1 : (¬ (x1 < (0 : Int32))) → (x1 ≤ (2 : Int32)) → jC0 l mX1_startAnew 2 G [.ref 57] μ (pV ψ1)) 
    (k1 : (¬ (x1 < (0 : Int32))) → (x1 ≤ (2 : Int32)) → ∀ μ', ψ1 μ' → J l mX11_tonight (jZ0 6 G (pI φ)) G 0 0 18 [.ref 0, .int x1] [] μ') 
    (k2 : (¬ (x1 < (0 : Int32))) → (¬ (x1 ≤ (2 : Int32))) → φ (-1) μ) :
    J l mX11_tonight (jZ0 6 G (pI φ)) G 0 0 0 [.ref 0, .int x1] [] μ := by
  refine j_iload_n dX11_tonight_0 rfl rfl ?_
  refine j_if_lt 9 dX11_tonight_1 rfl (by decide) (fun c0 => ?_) (fun c0 => ?_)
  · skip
    refine j_iconst (-1) dX11_tonight_9 rfl (by decide) ?_
    exact j_iret dX11_tonight_10 rfl (k0 c0)
  · skip
    refine j_iload_n dX11_tonight_4 rfl rfl ?_
    refine j_iconst 2 dX11_tonight_5 rfl (by decide) ?_
    refine j_icmp_le 11 dX11_tonight_6 rfl (by decide) (fun c1 => ?_) (fun c1 => ?_)
    · skip
      refine j_aload_n dX11_tonight_11 rfl rfl ?_
      refine j_getR (ci := 11) (N := 9) (f := 5) (T := TX11) 57 dX11_tonight_12 rfl (hG 0 (16, 9) rfl) rfl (by decide) fl_X11_49 rfl (hP 0 5 57 rfl) ?_
      refine j_cV (as := []) (rest := []) dX11_tonight_15 rfl vw_X11_186 (hG 57 (6, 9) rfl) rfl ⟨Nat.le_of_ble_eq_true rfl, Nat.le_of_ble_eq_true rfl⟩ rfl rfl (fun _ _ => Nat.le_of_ble_eq_true rfl) (e1 c0 c1) (fun r μ' hr => ?_)
      obtain ⟨rfl, hr⟩ := hr
      exact k1 c0 c1 μ' hr
    · skip
      refine j_iconst (-1) dX11_tonight_9 rfl (by decide) ?_
      exact j_iret dX11_tonight_10 rfl (k2 c0 c1)
theorem b_X11_tonight_18 {l : Launch} {G : jG} {μ : jM} {φ : Int32 → jM → Prop} {x1 : Int32} {ψ0 : jM → Prop} (hG : gGG G) (hP : gPP μ) 
    (e0 : jC0 l mX1_run 5 G [.ref 57, .int 1] μ (pV ψ0)) 
    (k0 : ∀ μ', ψ0 μ' → J l mX11_tonight (jZ0 6 G (pI φ)) G 0 0 26 [.ref 0, .int x1] [] μ') :
    J l mX11_tonight (jZ0 6 G (pI φ)) G 0 0 18 [.ref 0, .int x1] [] μ := by
  refine j_aload_n dX11_tonight_18 rfl rfl ?_
  refine j_getR (ci := 11) (N := 9) (f := 5) (T := TX11) 57 dX11_tonight_19 rfl (hG 0 (16, 9) rfl) rfl (by decide) fl_X11_49 rfl (hP 0 5 57 rfl) ?_
  refine j_iconst 1 dX11_tonight_22 rfl (by decide) ?_
  refine j_cV (as := [.int 1]) (rest := []) dX11_tonight_23 rfl vw_X11_189 (hG 57 (6, 9) rfl) rfl ⟨Nat.le_of_ble_eq_true rfl, Nat.le_of_ble_eq_true rfl⟩ rfl rfl (fun _ _ => Nat.le_of_ble_eq_true rfl) (e0 ) (fun r μ' hr => ?_)
  obtain ⟨rfl, hr⟩ := hr
  exact k0  μ' hr
theorem b_X11_tonight_26 {l : Launch} {G : jG} {μ : jM} {φ : Int32 → jM → Prop} {x1 : Int32} {ψ0 : Int32 → jM → Prop} {ψ1 : Int32 → jM → Prop} {ψ2 : Int32 → jM → Prop} (hG : gGG G) (hP : gPP μ) 
    (e0 : (x1 = (0 : Int32)) → jC0 l mX1_grown 0 G [.ref 57, .int 3, .int 1] μ (pI ψ0)) 
    (k0 : (x1 = (0 : Int32)) → ∀ v μ', ψ0 v μ' → J l mX11_tonight (jZ0 6 G (pI φ)) G 0 0 61 [.null, .null] [.int v] μ') 
    (e1 : (¬ x1 = (0 : Int32)) → (x1 = (1 : Int32)) → jC0 l mX1_grown 0 G [.ref 57, .int 50, .int 7] μ (pI ψ1)) 
    (k1 : (¬ x1 = (0 : Int32)) → (x1 = (1 : Int32)) → ∀ v μ', ψ1 v μ' → J l mX11_tonight (jZ0 6 G (pI φ)) G 0 0 73 [.null, .null] [.int v] μ') 
    (e2 : (¬ x1 = (0 : Int32)) → (¬ x1 = (1 : Int32)) → jC0 l mX1_grown 0 G [.ref 57, .int 64, .int 7] μ (pI ψ2)) 
    (k2 : (¬ x1 = (0 : Int32)) → (¬ x1 = (1 : Int32)) → ∀ v μ', ψ2 v μ' → J l mX11_tonight (jZ0 6 G (pI φ)) G 0 0 85 [.null, .null] [.int v] μ') :
    J l mX11_tonight (jZ0 6 G (pI φ)) G 0 0 26 [.ref 0, .int x1] [] μ := by
  refine j_iload_n dX11_tonight_26 rfl rfl ?_
  by_cases c0 : x1 = (0 : Int32)
  · skip
    refine j_lookup (off := 25) 52 dX11_tonight_27 (by decide) (sw_l c0 (by decide)) (by decide) ?_
    refine j_aload_n dX11_tonight_52 rfl rfl ?_
    refine j_getR (ci := 11) (N := 9) (f := 5) (T := TX11) 57 dX11_tonight_53 rfl (hG 0 (16, 9) rfl) rfl (by decide) fl_X11_49 rfl (hP 0 5 57 rfl) ?_
    refine j_iconst 3 dX11_tonight_56 rfl (by decide) ?_
    refine j_iconst 1 dX11_tonight_57 rfl (by decide) ?_
    refine j_cV (as := [.int 3, .int 1]) (rest := []) dX11_tonight_58 rfl vw_X11_192 (hG 57 (6, 9) rfl) rfl ⟨Nat.le_of_ble_eq_true rfl, Nat.le_of_ble_eq_true rfl⟩ rfl rfl (fun _ _ => Nat.le_of_ble_eq_true rfl) (e0 c0) (fun r μ' hr => ?_)
    obtain ⟨v, rfl, hr⟩ := hr
    refine j_forget (ls' := [.null, .null]) ⟨Or.inl rfl, Or.inl rfl, trivial⟩ ?_
    exact k0 c0 v μ' hr
  by_cases c1 : x1 = (1 : Int32)
  · skip
    refine j_lookup (off := 35) 62 dX11_tonight_27 (by decide) (sw_l c1 (by decide)) (by decide) ?_
    refine j_aload_n dX11_tonight_62 rfl rfl ?_
    refine j_getR (ci := 11) (N := 9) (f := 5) (T := TX11) 57 dX11_tonight_63 rfl (hG 0 (16, 9) rfl) rfl (by decide) fl_X11_49 rfl (hP 0 5 57 rfl) ?_
    refine j_bipush 50 dX11_tonight_66 rfl (by decide) ?_
    refine j_bipush 7 dX11_tonight_68 rfl (by decide) ?_
    refine j_cV (as := [.int 50, .int 7]) (rest := []) dX11_tonight_70 rfl vw_X11_192 (hG 57 (6, 9) rfl) rfl ⟨Nat.le_of_ble_eq_true rfl, Nat.le_of_ble_eq_true rfl⟩ rfl rfl (fun _ _ => Nat.le_of_ble_eq_true rfl) (e1 c0 c1) (fun r μ' hr => ?_)
    obtain ⟨v, rfl, hr⟩ := hr
    refine j_forget (ls' := [.null, .null]) ⟨Or.inl rfl, Or.inl rfl, trivial⟩ ?_
    exact k1 c0 c1 v μ' hr
  refine j_lookup (off := 47) 74 dX11_tonight_27 (by decide) ((lv_osw c0 (by decide)).trans ((lv_osw c1 (by decide)).trans rfl)) (by decide) ?_
  refine j_aload_n dX11_tonight_74 rfl rfl ?_
  refine j_getR (ci := 11) (N := 9) (f := 5) (T := TX11) 57 dX11_tonight_75 rfl (hG 0 (16, 9) rfl) rfl (by decide) fl_X11_49 rfl (hP 0 5 57 rfl) ?_
  refine j_bipush 64 dX11_tonight_78 rfl (by decide) ?_
  refine j_bipush 7 dX11_tonight_80 rfl (by decide) ?_
  refine j_cV (as := [.int 64, .int 7]) (rest := []) dX11_tonight_82 rfl vw_X11_192 (hG 57 (6, 9) rfl) rfl ⟨Nat.le_of_ble_eq_true rfl, Nat.le_of_ble_eq_true rfl⟩ rfl rfl (fun _ _ => Nat.le_of_ble_eq_true rfl) (e2 c0 c1) (fun r μ' hr => ?_)
  obtain ⟨v, rfl, hr⟩ := hr
  refine j_forget (ls' := [.null, .null]) ⟨Or.inl rfl, Or.inl rfl, trivial⟩ ?_
  exact k2 c0 c1 v μ' hr
theorem b_X11_tonight_61 {l : Launch} {G : jG} {μ : jM} {φ : Int32 → jM → Prop} {z0 : Int32} (hG : gGG G) (hP : gPP μ) 
    (k0 : φ z0 μ) :
    J l mX11_tonight (jZ0 6 G (pI φ)) G 0 0 61 [.null, .null] [.int z0] μ := by
  exact j_iret dX11_tonight_61 rfl (k0 )
theorem b_X11_tonight_73 {l : Launch} {G : jG} {μ : jM} {φ : Int32 → jM → Prop} {z0 : Int32} (hG : gGG G) (hP : gPP μ) 
    (k0 : φ z0 μ) :
    J l mX11_tonight (jZ0 6 G (pI φ)) G 0 0 73 [.null, .null] [.int z0] μ := by
  exact j_iret dX11_tonight_73 rfl (k0 )
theorem b_X11_tonight_85 {l : Launch} {G : jG} {μ : jM} {φ : Int32 → jM → Prop} {z0 : Int32} (hG : gGG G) (hP : gPP μ) 
    (k0 : φ z0 μ) :
    J l mX11_tonight (jZ0 6 G (pI φ)) G 0 0 85 [.null, .null] [.int z0] μ := by
  exact j_iret dX11_tonight_85 rfl (k0 )
theorem b_X11_put_0 {l : Launch} {G : jG} {μ : jM} {φ : Int32 → jM → Prop} {x1 x2 x3 : Int32} (hG : gGG G) (hP : gPP μ) 
    (k0 : (x1 < (1 : Int32)) → J l mX11_put (jZ0 7 G (pI φ)) G 0 0 25 [.ref 0, .int x1, .int x2, .int x3, .null] [] μ) 
    (k1 : (¬ (x1 < (1 : Int32))) → (3 < (x1 : Int32)) → J l mX11_put (jZ0 7 G (pI φ)) G 0 0 25 [.ref 0, .int x1, .int x2, .int x3, .null] [] μ) 
    (k2 : (¬ (x1 < (1 : Int32))) → (¬ (3 < (x1 : Int32))) → (x2 < (1 : Int32)) → J l mX11_put (jZ0 7 G (pI φ)) G 0 0 25 [.ref 0, .int x1, .int x2, .int x3, .null] [] μ) 
    (k3 : (¬ (x1 < (1 : Int32))) → (¬ (3 < (x1 : Int32))) → (¬ (x2 < (1 : Int32))) → (9 < (x2 : Int32)) → J l mX11_put (jZ0 7 G (pI φ)) G 0 0 25 [.ref 0, .int x1, .int x2, .int x3, .null] [] μ) 
    (k4 : (¬ (x1 < (1 : Int32))) → (¬ (3 < (x1 : Int32))) → (¬ (x2 < (1 : Int32))) → (¬ (9 < (x2 : Int32))) → J l mX11_put (jZ0 7 G (pI φ)) G 0 0 26 [.ref 0, .int x1, .int x2, .int x3, .null] [.int 1] μ) :
    J l mX11_put (jZ0 7 G (pI φ)) G 0 0 0 [.ref 0, .int x1, .int x2, .int x3, .null] [] μ := by
  refine j_iload_n dX11_put_0 rfl rfl ?_
  refine j_iconst 1 dX11_put_1 rfl (by decide) ?_
  refine j_icmp_lt 25 dX11_put_2 rfl (by decide) (fun c0 => ?_) (fun c0 => ?_)
  · skip
    exact k0 c0
  · skip
    refine j_iload_n dX11_put_5 rfl rfl ?_
    refine j_iconst 3 dX11_put_6 rfl (by decide) ?_
    refine j_icmp_gt 25 dX11_put_7 rfl (by decide) (fun c1 => ?_) (fun c1 => ?_)
    · skip
      exact k1 c0 c1
    · skip
      refine j_iload_n dX11_put_10 rfl rfl ?_
      refine j_iconst 1 dX11_put_11 rfl (by decide) ?_
      refine j_icmp_lt 25 dX11_put_12 rfl (by decide) (fun c2 => ?_) (fun c2 => ?_)
      · skip
        exact k2 c0 c1 c2
      · skip
        refine j_iload_n dX11_put_15 rfl rfl ?_
        refine j_bipush 9 dX11_put_16 rfl (by decide) ?_
        refine j_icmp_gt 25 dX11_put_18 rfl (by decide) (fun c3 => ?_) (fun c3 => ?_)
        · skip
          exact k3 c0 c1 c2 c3
        · skip
          refine j_iconst 1 dX11_put_21 rfl (by decide) ?_
          refine j_goto 26 dX11_put_22 (by decide) ?_
          exact k4 c0 c1 c2 c3
theorem b_X11_put_25 {l : Launch} {G : jG} {μ : jM} {φ : Int32 → jM → Prop} {x1 x2 x3 : Int32} (hG : gGG G) (hP : gPP μ) 
    (k0 : J l mX11_put (jZ0 7 G (pI φ)) G 0 0 26 [.ref 0, .int x1, .int x2, .int x3, .null] [.int 0] μ) :
    J l mX11_put (jZ0 7 G (pI φ)) G 0 0 25 [.ref 0, .int x1, .int x2, .int x3, .null] [] μ := by
  refine j_iconst 0 dX11_put_25 rfl (by decide) ?_
  exact k0 
theorem b_X11_put_26 {l : Launch} {G : jG} {μ : jM} {φ : Int32 → jM → Prop} {x1 x2 x3 z0 : Int32} {ψ2 : jM → Prop} {t : Nat} (hG : gGG G) (hP : gPP μ) (ht : tO gTold pTold G μ t) (q12_0 : μ.2.2 12 0 = some t) 
    (k0 : (z0 = (0 : Int32)) → J l mX11_put (jZ0 7 G (pI φ)) G 0 0 42 [.null, .null, .null, .null, .null] [] μ) 
    (k1 : (¬ (z0 = (0 : Int32))) → (x3 < (0 : Int32)) → J l mX11_put (jZ0 7 G (pI φ)) G 0 0 42 [.null, .null, .null, .null, .null] [] μ) 
    (e2 : (¬ (z0 = (0 : Int32))) → (¬ (x3 < (0 : Int32))) → (x3 ≤ (1 : Int32)) → (x1 ≤ ((μ.1 t 1) : Int32)) → jC0 l mX1_seekGates 6 G [.ref 57, .int x1, .int x2] μ (pV ψ2)) 
    (k2 : (¬ (z0 = (0 : Int32))) → (¬ (x3 < (0 : Int32))) → (x3 ≤ (1 : Int32)) → (x1 ≤ ((μ.1 t 1) : Int32)) → ∀ μ', ψ2 μ' → J l mX11_put (jZ0 7 G (pI φ)) G 0 0 70 [.ref 0, .null, .null, .int x3, .null] [] μ') 
    (k3 : (¬ (z0 = (0 : Int32))) → (¬ (x3 < (0 : Int32))) → (x3 ≤ (1 : Int32)) → (¬ (x1 ≤ ((μ.1 t 1) : Int32))) → φ (-2) μ) 
    (k4 : (¬ (z0 = (0 : Int32))) → (¬ (x3 < (0 : Int32))) → (¬ (x3 ≤ (1 : Int32))) → J l mX11_put (jZ0 7 G (pI φ)) G 0 0 42 [.null, .null, .null, .null, .null] [] μ) :
    J l mX11_put (jZ0 7 G (pI φ)) G 0 0 26 [.ref 0, .int x1, .int x2, .int x3, .null] [.int z0] μ := by
  refine j_istore (ls' := [.ref 0, .int x1, .int x2, .int x3, .int z0]) dX11_put_26 rfl (Nat.le_of_ble_eq_true rfl) rfl ?_
  refine j_iload dX11_put_28 rfl rfl ?_
  refine j_if_eq 42 dX11_put_30 rfl (by decide) (fun c0 => ?_) (fun c0 => ?_)
  · skip
    refine j_forget (ls' := [.null, .null, .null, .null, .null]) ⟨Or.inl rfl, Or.inl rfl, Or.inl rfl, Or.inl rfl, Or.inl rfl, trivial⟩ ?_
    exact k0 c0
  · skip
    refine j_iload_n dX11_put_33 rfl rfl ?_
    refine j_if_lt 42 dX11_put_34 rfl (by decide) (fun c1 => ?_) (fun c1 => ?_)
    · skip
      refine j_forget (ls' := [.null, .null, .null, .null, .null]) ⟨Or.inl rfl, Or.inl rfl, Or.inl rfl, Or.inl rfl, Or.inl rfl, trivial⟩ ?_
      exact k1 c0 c1
    · skip
      refine j_iload_n dX11_put_37 rfl rfl ?_
      refine j_iconst 1 dX11_put_38 rfl (by decide) ?_
      refine j_icmp_le 44 dX11_put_39 rfl (by decide) (fun c2 => ?_) (fun c2 => ?_)
      · skip
        refine j_aload_n dX11_put_44 rfl rfl ?_
        refine j_getR (ci := 11) (N := 9) (f := 2) (T := TX11) 12 dX11_put_45 rfl (hG 0 (16, 9) rfl) rfl (by decide) fl_X11_26 rfl (hP 0 2 12 rfl) ?_
        refine j_getR (ci := 10) (N := 11) (f := 0) (T := TX10) t dX11_put_48 rfl (hG 12 (15, 11) rfl) rfl (by decide) fl_X11_97 rfl q12_0 ?_
        refine j_getI (ci := 8) (N := 20) (f := 1) (T := TX8) dX11_put_51 rfl (ht.1 0 (13, 20) rfl) rfl (by decide) fl_X11_195 rfl ?_
        refine j_iload_n dX11_put_54 rfl rfl ?_
        refine j_icmp_ge 61 dX11_put_55 rfl (by decide) (fun c3 => ?_) (fun c3 => ?_)
        · skip
          refine j_aload_n dX11_put_61 rfl rfl ?_
          refine j_getR (ci := 11) (N := 9) (f := 5) (T := TX11) 57 dX11_put_62 rfl (hG 0 (16, 9) rfl) rfl (by decide) fl_X11_49 rfl (hP 0 5 57 rfl) ?_
          refine j_iload_n dX11_put_65 rfl rfl ?_
          refine j_iload_n dX11_put_66 rfl rfl ?_
          refine j_cV (as := [.int x1, .int x2]) (rest := []) dX11_put_67 rfl vw_X11_197 (hG 57 (6, 9) rfl) rfl ⟨Nat.le_of_ble_eq_true rfl, Nat.le_of_ble_eq_true rfl⟩ rfl rfl (fun _ _ => Nat.le_of_ble_eq_true rfl) (e2 c0 c1 c2 c3) (fun r μ' hr => ?_)
          obtain ⟨rfl, hr⟩ := hr
          refine j_forget (ls' := [.ref 0, .null, .null, .int x3, .null]) ⟨Or.inr rfl, Or.inl rfl, Or.inl rfl, Or.inr rfl, Or.inl rfl, trivial⟩ ?_
          exact k2 c0 c1 c2 c3 μ' hr
        · skip
          refine j_bipush (-2) dX11_put_58 rfl (by decide) ?_
          exact j_iret dX11_put_60 rfl (k3 c0 c1 c2 c3)
      · skip
        refine j_forget (ls' := [.null, .null, .null, .null, .null]) ⟨Or.inl rfl, Or.inl rfl, Or.inl rfl, Or.inl rfl, Or.inl rfl, trivial⟩ ?_
        exact k4 c0 c1 c2
theorem b_X11_put_42 {l : Launch} {G : jG} {μ : jM} {φ : Int32 → jM → Prop} (hG : gGG G) (hP : gPP μ) 
    (k0 : φ (-1) μ) :
    J l mX11_put (jZ0 7 G (pI φ)) G 0 0 42 [.null, .null, .null, .null, .null] [] μ := by
  refine j_iconst (-1) dX11_put_42 rfl (by decide) ?_
  exact j_iret dX11_put_43 rfl (k0 )
theorem b_X11_put_70 {l : Launch} {G : jG} {μ : jM} {φ : Int32 → jM → Prop} {x3 : Int32} (hG : gGG G) (hP : gPP μ) 
    (k0 : (¬ x3 = (0 : Int32)) → J l mX11_put (jZ0 7 G (pI φ)) G 0 0 91 [.null, .null, .null, .null, .null] [.int (μ.1 57 1)] μ) 
    (k1 : (x3 = (0 : Int32)) → J l mX11_put (jZ0 7 G (pI φ)) G 0 0 91 [.null, .null, .null, .null, .null] [.int (μ.1 57 0)] μ) :
    J l mX11_put (jZ0 7 G (pI φ)) G 0 0 70 [.ref 0, .null, .null, .int x3, .null] [] μ := by
  refine j_iload_n dX11_put_70 rfl rfl ?_
  refine j_if_ne 84 dX11_put_71 rfl (by decide) (fun c0 => ?_) (fun c0 => ?_)
  · skip
    refine j_aload_n dX11_put_84 rfl rfl ?_
    refine j_getR (ci := 11) (N := 9) (f := 5) (T := TX11) 57 dX11_put_85 rfl (hG 0 (16, 9) rfl) rfl (by decide) fl_X11_49 rfl (hP 0 5 57 rfl) ?_
    refine j_getI (ci := 1) (N := 9) (f := 1) (T := TX1) dX11_put_88 rfl (hG 57 (6, 9) rfl) rfl (by decide) fl_X11_203 rfl ?_
    refine j_forget (ls' := [.null, .null, .null, .null, .null]) ⟨Or.inl rfl, Or.inr rfl, Or.inr rfl, Or.inl rfl, Or.inr rfl, trivial⟩ ?_
    exact k0 c0
  · skip
    refine j_aload_n dX11_put_74 rfl rfl ?_
    refine j_getR (ci := 11) (N := 9) (f := 5) (T := TX11) 57 dX11_put_75 rfl (hG 0 (16, 9) rfl) rfl (by decide) fl_X11_49 rfl (hP 0 5 57 rfl) ?_
    refine j_getI (ci := 1) (N := 9) (f := 0) (T := TX1) dX11_put_78 rfl (hG 57 (6, 9) rfl) rfl (by decide) fl_X11_200 rfl ?_
    refine j_goto 91 dX11_put_81 (by decide) ?_
    refine j_forget (ls' := [.null, .null, .null, .null, .null]) ⟨Or.inl rfl, Or.inr rfl, Or.inr rfl, Or.inl rfl, Or.inr rfl, trivial⟩ ?_
    exact k1 c0
theorem b_X11_put_91 {l : Launch} {G : jG} {μ : jM} {φ : Int32 → jM → Prop} {z0 : Int32} (hG : gGG G) (hP : gPP μ) 
    (k0 : φ z0 μ) :
    J l mX11_put (jZ0 7 G (pI φ)) G 0 0 91 [.null, .null, .null, .null, .null] [.int z0] μ := by
  exact j_iret dX11_put_91 rfl (k0 )
theorem b_X11_free_0 {l : Launch} {G : jG} {μ : jM} {φ : Int32 → jM → Prop} {ψ0 : jM → Prop} (hG : gGG G) (hP : gPP μ) 
    (e0 : jC0 l mX10_enter 3 G [.ref 12, .ref 52] μ (pV ψ0)) 
    (k0 : ∀ μ', ψ0 μ' → J l mX11_free (jZ0 5 G (pI φ)) G 0 0 11 [.ref 0] [] μ') :
    J l mX11_free (jZ0 5 G (pI φ)) G 0 0 0 [.ref 0] [] μ := by
  refine j_aload_n dX11_free_0 rfl rfl ?_
  refine j_getR (ci := 11) (N := 9) (f := 2) (T := TX11) 12 dX11_free_1 rfl (hG 0 (16, 9) rfl) rfl (by decide) fl_X11_26 rfl (hP 0 2 12 rfl) ?_
  refine j_aload_n dX11_free_4 rfl rfl ?_
  refine j_getR (ci := 11) (N := 9) (f := 3) (T := TX11) 52 dX11_free_5 rfl (hG 0 (16, 9) rfl) rfl (by decide) fl_X11_33 rfl (hP 0 3 52 rfl) ?_
  refine j_cV (as := [.ref 52]) (rest := []) dX11_free_8 rfl vw_X11_81 (hG 12 (15, 11) rfl) rfl ⟨Nat.le_of_ble_eq_true rfl, Nat.le_of_ble_eq_true rfl⟩ rfl rfl (fun _ _ => Nat.le_of_ble_eq_true rfl) (e0 ) (fun r μ' hr => ?_)
  obtain ⟨rfl, hr⟩ := hr
  exact k0  μ' hr
theorem b_X11_free_11 {l : Launch} {G : jG} {μ : jM} {φ : Int32 → jM → Prop} {ψ0 : Int32 → jM → Prop} (hG : gGG G) (hP : gPP μ) 
    (e0 : jC0 l mX10_freeGhosts 4 G [.ref 12] μ (pI ψ0)) 
    (k0 : ∀ v μ', ψ0 v μ' → J l mX11_free (jZ0 5 G (pI φ)) G 0 0 18 [.null] [.int v] μ') :
    J l mX11_free (jZ0 5 G (pI φ)) G 0 0 11 [.ref 0] [] μ := by
  refine j_aload_n dX11_free_11 rfl rfl ?_
  refine j_getR (ci := 11) (N := 9) (f := 2) (T := TX11) 12 dX11_free_12 rfl (hG 0 (16, 9) rfl) rfl (by decide) fl_X11_26 rfl (hP 0 2 12 rfl) ?_
  refine j_cV (as := []) (rest := []) dX11_free_15 rfl vw_X11_206 (hG 12 (15, 11) rfl) rfl ⟨Nat.le_of_ble_eq_true rfl, Nat.le_of_ble_eq_true rfl⟩ rfl rfl (fun _ _ => Nat.le_of_ble_eq_true rfl) (e0 ) (fun r μ' hr => ?_)
  obtain ⟨v, rfl, hr⟩ := hr
  refine j_forget (ls' := [.null]) ⟨Or.inl rfl, trivial⟩ ?_
  exact k0  v μ' hr
theorem b_X11_free_18 {l : Launch} {G : jG} {μ : jM} {φ : Int32 → jM → Prop} {z0 : Int32} (hG : gGG G) (hP : gPP μ) 
    (k0 : φ z0 μ) :
    J l mX11_free (jZ0 5 G (pI φ)) G 0 0 18 [.null] [.int z0] μ := by
  exact j_iret dX11_free_18 rfl (k0 )
theorem b_X11_stop_0 {l : Launch} {G : jG} {μ : jM} {φ : Int32 → jM → Prop} {x1 : Int32} {ψ1 : jM → Prop} (hG : gGG G) (hP : gPP μ) 
    (k0 : (x1 < (0 : Int32)) → φ (-1) μ) 
    (e1 : (¬ (x1 < (0 : Int32))) → (x1 ≤ (1 : Int32)) → jC0 l mX1_seekStop 6 G [.ref 57] μ (pV ψ1)) 
    (k1 : (¬ (x1 < (0 : Int32))) → (x1 ≤ (1 : Int32)) → ∀ μ', ψ1 μ' → J l mX11_stop (jZ0 7 G (pI φ)) G 0 0 18 [.ref 0, .int x1] [] μ') 
    (k2 : (¬ (x1 < (0 : Int32))) → (¬ (x1 ≤ (1 : Int32))) → φ (-1) μ) :
    J l mX11_stop (jZ0 7 G (pI φ)) G 0 0 0 [.ref 0, .int x1] [] μ := by
  refine j_iload_n dX11_stop_0 rfl rfl ?_
  refine j_if_lt 9 dX11_stop_1 rfl (by decide) (fun c0 => ?_) (fun c0 => ?_)
  · skip
    refine j_iconst (-1) dX11_stop_9 rfl (by decide) ?_
    exact j_iret dX11_stop_10 rfl (k0 c0)
  · skip
    refine j_iload_n dX11_stop_4 rfl rfl ?_
    refine j_iconst 1 dX11_stop_5 rfl (by decide) ?_
    refine j_icmp_le 11 dX11_stop_6 rfl (by decide) (fun c1 => ?_) (fun c1 => ?_)
    · skip
      refine j_aload_n dX11_stop_11 rfl rfl ?_
      refine j_getR (ci := 11) (N := 9) (f := 5) (T := TX11) 57 dX11_stop_12 rfl (hG 0 (16, 9) rfl) rfl (by decide) fl_X11_49 rfl (hP 0 5 57 rfl) ?_
      refine j_cV (as := []) (rest := []) dX11_stop_15 rfl vw_X11_210 (hG 57 (6, 9) rfl) rfl ⟨Nat.le_of_ble_eq_true rfl, Nat.le_of_ble_eq_true rfl⟩ rfl rfl (fun _ _ => Nat.le_of_ble_eq_true rfl) (e1 c0 c1) (fun r μ' hr => ?_)
      obtain ⟨rfl, hr⟩ := hr
      exact k1 c0 c1 μ' hr
    · skip
      refine j_iconst (-1) dX11_stop_9 rfl (by decide) ?_
      exact j_iret dX11_stop_10 rfl (k2 c0 c1)
theorem b_X11_stop_18 {l : Launch} {G : jG} {μ : jM} {φ : Int32 → jM → Prop} {x1 : Int32} (hG : gGG G) (hP : gPP μ) 
    (k0 : (¬ x1 = (0 : Int32)) → φ (μ.1 57 1) μ) 
    (k1 : (x1 = (0 : Int32)) → φ (μ.1 57 0) μ) :
    J l mX11_stop (jZ0 7 G (pI φ)) G 0 0 18 [.ref 0, .int x1] [] μ := by
  refine j_iload_n dX11_stop_18 rfl rfl ?_
  refine j_if_ne 32 dX11_stop_19 rfl (by decide) (fun c0 => ?_) (fun c0 => ?_)
  · skip
    refine j_aload_n dX11_stop_32 rfl rfl ?_
    refine j_getR (ci := 11) (N := 9) (f := 5) (T := TX11) 57 dX11_stop_33 rfl (hG 0 (16, 9) rfl) rfl (by decide) fl_X11_49 rfl (hP 0 5 57 rfl) ?_
    refine j_getI (ci := 1) (N := 9) (f := 1) (T := TX1) dX11_stop_36 rfl (hG 57 (6, 9) rfl) rfl (by decide) fl_X11_203 rfl ?_
    exact j_iret dX11_stop_39 rfl (k0 c0)
  · skip
    refine j_aload_n dX11_stop_22 rfl rfl ?_
    refine j_getR (ci := 11) (N := 9) (f := 5) (T := TX11) 57 dX11_stop_23 rfl (hG 0 (16, 9) rfl) rfl (by decide) fl_X11_49 rfl (hP 0 5 57 rfl) ?_
    refine j_getI (ci := 1) (N := 9) (f := 0) (T := TX1) dX11_stop_26 rfl (hG 57 (6, 9) rfl) rfl (by decide) fl_X11_200 rfl ?_
    refine j_goto 39 dX11_stop_29 (by decide) ?_
    exact j_iret dX11_stop_39 rfl (k1 c0)
theorem b_X11_saves_0 {l : Launch} {G : jG} {μ : jM} {φ : Int32 → jM → Prop} {x1 : Int32} {ψ0 : Int32 → jM → Prop} (hG : gGG G) (hP : gPP μ) 
    (e0 : jC0 l mX11_isGhost 0 G [.ref 0, .int x1] μ (pI ψ0)) 
    (k0 : ∀ v μ', ψ0 v μ' → J l mX11_saves (jZ0 5 G (pI φ)) G 0 0 5 [.ref 0, .int x1] [.int v] μ') :
    J l mX11_saves (jZ0 5 G (pI φ)) G 0 0 0 [.ref 0, .int x1] [] μ := by
  refine j_aload_n dX11_saves_0 rfl rfl ?_
  refine j_iload_n dX11_saves_1 rfl rfl ?_
  refine j_cV (as := [.int x1]) (rest := []) dX11_saves_2 rfl vw_X11_128 (hG 0 (16, 9) rfl) rfl ⟨Nat.le_of_ble_eq_true rfl, Nat.le_of_ble_eq_true rfl⟩ rfl rfl (fun _ _ => Nat.le_of_ble_eq_true rfl) (e0 ) (fun r μ' hr => ?_)
  obtain ⟨v, rfl, hr⟩ := hr
  exact k0  v μ' hr
theorem b_X11_saves_5 {l : Launch} {G : jG} {μ : jM} {φ : Int32 → jM → Prop} {x1 z0 : Int32} {ψ0 : jM → Prop} (hG : gGG G) (hP : gPP μ) 
    (e0 : (¬ z0 = (0 : Int32)) → jC0 l mX10_enter 3 G [.ref 12, .ref 52] μ (pV ψ0)) 
    (k0 : (¬ z0 = (0 : Int32)) → ∀ μ', ψ0 μ' → J l mX11_saves (jZ0 5 G (pI φ)) G 0 0 21 [.ref 0, .int x1] [] μ') 
    (k1 : (z0 = (0 : Int32)) → φ (-1) μ) :
    J l mX11_saves (jZ0 5 G (pI φ)) G 0 0 5 [.ref 0, .int x1] [.int z0] μ := by
  refine j_if_ne 10 dX11_saves_5 rfl (by decide) (fun c0 => ?_) (fun c0 => ?_)
  · skip
    refine j_aload_n dX11_saves_10 rfl rfl ?_
    refine j_getR (ci := 11) (N := 9) (f := 2) (T := TX11) 12 dX11_saves_11 rfl (hG 0 (16, 9) rfl) rfl (by decide) fl_X11_26 rfl (hP 0 2 12 rfl) ?_
    refine j_aload_n dX11_saves_14 rfl rfl ?_
    refine j_getR (ci := 11) (N := 9) (f := 3) (T := TX11) 52 dX11_saves_15 rfl (hG 0 (16, 9) rfl) rfl (by decide) fl_X11_33 rfl (hP 0 3 52 rfl) ?_
    refine j_cV (as := [.ref 52]) (rest := []) dX11_saves_18 rfl vw_X11_81 (hG 12 (15, 11) rfl) rfl ⟨Nat.le_of_ble_eq_true rfl, Nat.le_of_ble_eq_true rfl⟩ rfl rfl (fun _ _ => Nat.le_of_ble_eq_true rfl) (e0 c0) (fun r μ' hr => ?_)
    obtain ⟨rfl, hr⟩ := hr
    exact k0 c0 μ' hr
  · skip
    refine j_iconst (-1) dX11_saves_8 rfl (by decide) ?_
    exact j_iret dX11_saves_9 rfl (k1 c0)
theorem b_X11_saves_21 {l : Launch} {G : jG} {μ : jM} {φ : Int32 → jM → Prop} {x1 : Int32} {ψ0 : Int32 → jM → Prop} (hG : gGG G) (hP : gPP μ) 
    (e0 : jC0 l mX10_findWay 3 G [.ref 12, .int x1] μ (pI ψ0)) 
    (k0 : ∀ v μ', ψ0 v μ' → J l mX11_saves (jZ0 5 G (pI φ)) G 0 0 29 [.ref 0, .int x1] [.int v] μ') :
    J l mX11_saves (jZ0 5 G (pI φ)) G 0 0 21 [.ref 0, .int x1] [] μ := by
  refine j_aload_n dX11_saves_21 rfl rfl ?_
  refine j_getR (ci := 11) (N := 9) (f := 2) (T := TX11) 12 dX11_saves_22 rfl (hG 0 (16, 9) rfl) rfl (by decide) fl_X11_26 rfl (hP 0 2 12 rfl) ?_
  refine j_iload_n dX11_saves_25 rfl rfl ?_
  refine j_cV (as := [.int x1]) (rest := []) dX11_saves_26 rfl vw_X11_148 (hG 12 (15, 11) rfl) rfl ⟨Nat.le_of_ble_eq_true rfl, Nat.le_of_ble_eq_true rfl⟩ rfl rfl (fun _ _ => Nat.le_of_ble_eq_true rfl) (e0 ) (fun r μ' hr => ?_)
  obtain ⟨v, rfl, hr⟩ := hr
  exact k0  v μ' hr
theorem b_X11_saves_29 {l : Launch} {G : jG} {μ : jM} {φ : Int32 → jM → Prop} {x1 z0 : Int32} {ψ0 : Int32 → jM → Prop} {y : Nat} (hG : gGG G) (hP : gPP μ) (hy : tO gWay pWay G μ y) 
    (o0 : (¬ z0 = (0 : Int32)) → vp_in x1 7) 
    (o1 : (¬ z0 = (0 : Int32)) → μ.2.2 13 (Int32.toNatClampNeg x1) = some y) 
    (e0 : (¬ z0 = (0 : Int32)) → jC0 l mX1_costWithoutGates 4 G [.ref 57, .int x1] μ (pI ψ0)) 
    (k0 : (¬ z0 = (0 : Int32)) → ∀ v μ', ψ0 v μ' → J l mX11_saves (jZ0 5 G (pI φ)) G 0 0 55 [.null, .null] [.int v, .int (μ.1 y 6)] μ') 
    (k1 : (z0 = (0 : Int32)) → φ (-2) μ) :
    J l mX11_saves (jZ0 5 G (pI φ)) G 0 0 29 [.ref 0, .int x1] [.int z0] μ := by
  refine j_if_ne 35 dX11_saves_29 rfl (by decide) (fun c0 => ?_) (fun c0 => ?_)
  · skip
    refine j_aload_n dX11_saves_35 rfl rfl ?_
    refine j_getR (ci := 11) (N := 9) (f := 2) (T := TX11) 12 dX11_saves_36 rfl (hG 0 (16, 9) rfl) rfl (by decide) fl_X11_26 rfl (hP 0 2 12 rfl) ?_
    refine j_getR (ci := 10) (N := 11) (f := 3) (T := TX10) 13 dX11_saves_39 rfl (hG 12 (15, 11) rfl) rfl (by decide) fl_X11_151 rfl (hP 12 3 13 rfl) ?_
    refine j_iload_n dX11_saves_42 rfl rfl ?_
    refine j_aald' (j := (Int32.toNatClampNeg x1)) dX11_saves_43 rfl (hG 13 (4, 7) rfl) (o0 c0) rfl (o1 c0) ?_
    refine j_getI (ci := 9) (N := 9) (f := 6) (T := TX9) dX11_saves_44 rfl (hy.1 0 (14, 9) rfl) rfl (by decide) fl_X11_155 rfl ?_
    refine j_aload_n dX11_saves_47 rfl rfl ?_
    refine j_getR (ci := 11) (N := 9) (f := 5) (T := TX11) 57 dX11_saves_48 rfl (hG 0 (16, 9) rfl) rfl (by decide) fl_X11_49 rfl (hP 0 5 57 rfl) ?_
    refine j_iload_n dX11_saves_51 rfl rfl ?_
    refine j_cV (as := [.int x1]) (rest := [.int (μ.1 y 6)]) dX11_saves_52 rfl vw_X11_213 (hG 57 (6, 9) rfl) rfl ⟨Nat.le_of_ble_eq_true rfl, Nat.le_of_ble_eq_true rfl⟩ rfl rfl (fun _ _ => Nat.le_of_ble_eq_true rfl) (e0 c0) (fun r μ' hr => ?_)
    obtain ⟨v, rfl, hr⟩ := hr
    refine j_forget (ls' := [.null, .null]) ⟨Or.inl rfl, Or.inl rfl, trivial⟩ ?_
    exact k0 c0 v μ' hr
  · skip
    refine j_bipush (-2) dX11_saves_32 rfl (by decide) ?_
    exact j_iret dX11_saves_34 rfl (k1 c0)
theorem b_X11_saves_55 {l : Launch} {G : jG} {μ : jM} {φ : Int32 → jM → Prop} {z0 z1 : Int32} (hG : gGG G) (hP : gPP μ) 
    (k0 : φ (z1 - z0) μ) :
    J l mX11_saves (jZ0 5 G (pI φ)) G 0 0 55 [.null, .null] [.int z0, .int z1] μ := by
  refine j_isub dX11_saves_55 rfl ?_
  exact j_iret dX11_saves_56 rfl (k0 )
theorem b_X11_pays_0 {l : Launch} {G : jG} {μ : jM} {φ : Int32 → jM → Prop} {x1 x2 : Int32} {ψ0 : Int32 → jM → Prop} (hG : gGG G) (hP : gPP μ) 
    (e0 : jC0 l mX11_isGhost 0 G [.ref 0, .int x1] μ (pI ψ0)) 
    (k0 : ∀ v μ', ψ0 v μ' → J l mX11_pays (jZ0 6 G (pI φ)) G 0 0 5 [.ref 0, .int x1, .int x2] [.int v] μ') :
    J l mX11_pays (jZ0 6 G (pI φ)) G 0 0 0 [.ref 0, .int x1, .int x2] [] μ := by
  refine j_aload_n dX11_pays_0 rfl rfl ?_
  refine j_iload_n dX11_pays_1 rfl rfl ?_
  refine j_cV (as := [.int x1]) (rest := []) dX11_pays_2 rfl vw_X11_128 (hG 0 (16, 9) rfl) rfl ⟨Nat.le_of_ble_eq_true rfl, Nat.le_of_ble_eq_true rfl⟩ rfl rfl (fun _ _ => Nat.le_of_ble_eq_true rfl) (e0 ) (fun r μ' hr => ?_)
  obtain ⟨v, rfl, hr⟩ := hr
  exact k0  v μ' hr
theorem b_X11_pays_5 {l : Launch} {G : jG} {μ : jM} {φ : Int32 → jM → Prop} {x1 x2 z0 : Int32} {ψ2 : jM → Prop} (hG : gGG G) (hP : gPP μ) 
    (k0 : (z0 = (0 : Int32)) → φ (-1) μ) 
    (k1 : (¬ (z0 = (0 : Int32))) → (x2 < (0 : Int32)) → φ (-1) μ) 
    (e2 : (¬ (z0 = (0 : Int32))) → (¬ (x2 < (0 : Int32))) → (x2 ≤ (60 : Int32)) → jC0 l mX1_startAnew 2 G [.ref 57] μ (pV ψ2)) 
    (k2 : (¬ (z0 = (0 : Int32))) → (¬ (x2 < (0 : Int32))) → (x2 ≤ (60 : Int32)) → ∀ μ', ψ2 μ' → J l mX11_pays (jZ0 6 G (pI φ)) G 0 0 27 [.ref 0, .int x1, .int x2] [] μ') 
    (k3 : (¬ (z0 = (0 : Int32))) → (¬ (x2 < (0 : Int32))) → (¬ (x2 ≤ (60 : Int32))) → φ (-1) μ) :
    J l mX11_pays (jZ0 6 G (pI φ)) G 0 0 5 [.ref 0, .int x1, .int x2] [.int z0] μ := by
  refine j_if_eq 18 dX11_pays_5 rfl (by decide) (fun c0 => ?_) (fun c0 => ?_)
  · skip
    refine j_iconst (-1) dX11_pays_18 rfl (by decide) ?_
    exact j_iret dX11_pays_19 rfl (k0 c0)
  · skip
    refine j_iload_n dX11_pays_8 rfl rfl ?_
    refine j_if_lt 18 dX11_pays_9 rfl (by decide) (fun c1 => ?_) (fun c1 => ?_)
    · skip
      refine j_iconst (-1) dX11_pays_18 rfl (by decide) ?_
      exact j_iret dX11_pays_19 rfl (k1 c0 c1)
    · skip
      refine j_iload_n dX11_pays_12 rfl rfl ?_
      refine j_bipush 60 dX11_pays_13 rfl (by decide) ?_
      refine j_icmp_le 20 dX11_pays_15 rfl (by decide) (fun c2 => ?_) (fun c2 => ?_)
      · skip
        refine j_aload_n dX11_pays_20 rfl rfl ?_
        refine j_getR (ci := 11) (N := 9) (f := 5) (T := TX11) 57 dX11_pays_21 rfl (hG 0 (16, 9) rfl) rfl (by decide) fl_X11_49 rfl (hP 0 5 57 rfl) ?_
        refine j_cV (as := []) (rest := []) dX11_pays_24 rfl vw_X11_186 (hG 57 (6, 9) rfl) rfl ⟨Nat.le_of_ble_eq_true rfl, Nat.le_of_ble_eq_true rfl⟩ rfl rfl (fun _ _ => Nat.le_of_ble_eq_true rfl) (e2 c0 c1 c2) (fun r μ' hr => ?_)
        obtain ⟨rfl, hr⟩ := hr
        exact k2 c0 c1 c2 μ' hr
      · skip
        refine j_iconst (-1) dX11_pays_18 rfl (by decide) ?_
        exact j_iret dX11_pays_19 rfl (k3 c0 c1 c2)
theorem b_X11_pays_27 {l : Launch} {G : jG} {μ : jM} {φ : Int32 → jM → Prop} {x1 x2 : Int32} {ψ0 : jM → Prop} (hG : gGG G) (hP : gPP μ) 
    (e0 : jC0 l mX1_run 5 G [.ref 57, .int x2] μ (pV ψ0)) 
    (k0 : ∀ μ', ψ0 μ' → J l mX11_pays (jZ0 6 G (pI φ)) G 0 0 35 [.ref 0, .int x1, .null] [] μ') :
    J l mX11_pays (jZ0 6 G (pI φ)) G 0 0 27 [.ref 0, .int x1, .int x2] [] μ := by
  refine j_aload_n dX11_pays_27 rfl rfl ?_
  refine j_getR (ci := 11) (N := 9) (f := 5) (T := TX11) 57 dX11_pays_28 rfl (hG 0 (16, 9) rfl) rfl (by decide) fl_X11_49 rfl (hP 0 5 57 rfl) ?_
  refine j_iload_n dX11_pays_31 rfl rfl ?_
  refine j_cV (as := [.int x2]) (rest := []) dX11_pays_32 rfl vw_X11_189 (hG 57 (6, 9) rfl) rfl ⟨Nat.le_of_ble_eq_true rfl, Nat.le_of_ble_eq_true rfl⟩ rfl rfl (fun _ _ => Nat.le_of_ble_eq_true rfl) (e0 ) (fun r μ' hr => ?_)
  obtain ⟨rfl, hr⟩ := hr
  refine j_forget (ls' := [.ref 0, .int x1, .null]) ⟨Or.inr rfl, Or.inr rfl, Or.inl rfl, trivial⟩ ?_
  exact k0  μ' hr
theorem b_X11_pays_35 {l : Launch} {G : jG} {μ : jM} {φ : Int32 → jM → Prop} {x1 : Int32} {ψ0 : Int32 → jM → Prop} (hG : gGG G) (hP : gPP μ) 
    (e0 : jC0 l mX1_grown 0 G [.ref 57, .int (43 + x1), .int 1] μ (pI ψ0)) 
    (k0 : ∀ v μ', ψ0 v μ' → J l mX11_pays (jZ0 6 G (pI φ)) G 0 0 47 [.null, .null, .null] [.int v] μ') :
    J l mX11_pays (jZ0 6 G (pI φ)) G 0 0 35 [.ref 0, .int x1, .null] [] μ := by
  refine j_aload_n dX11_pays_35 rfl rfl ?_
  refine j_getR (ci := 11) (N := 9) (f := 5) (T := TX11) 57 dX11_pays_36 rfl (hG 0 (16, 9) rfl) rfl (by decide) fl_X11_49 rfl (hP 0 5 57 rfl) ?_
  refine j_bipush 43 dX11_pays_39 rfl (by decide) ?_
  refine j_iload_n dX11_pays_41 rfl rfl ?_
  refine j_iadd dX11_pays_42 rfl ?_
  refine j_iconst 1 dX11_pays_43 rfl (by decide) ?_
  refine j_cV (as := [.int (43 + x1), .int 1]) (rest := []) dX11_pays_44 rfl vw_X11_192 (hG 57 (6, 9) rfl) rfl ⟨Nat.le_of_ble_eq_true rfl, Nat.le_of_ble_eq_true rfl⟩ rfl rfl (fun _ _ => Nat.le_of_ble_eq_true rfl) (e0 ) (fun r μ' hr => ?_)
  obtain ⟨v, rfl, hr⟩ := hr
  refine j_forget (ls' := [.null, .null, .null]) ⟨Or.inl rfl, Or.inl rfl, Or.inr rfl, trivial⟩ ?_
  exact k0  v μ' hr
theorem b_X11_pays_47 {l : Launch} {G : jG} {μ : jM} {φ : Int32 → jM → Prop} {z0 : Int32} (hG : gGG G) (hP : gPP μ) 
    (k0 : φ z0 μ) :
    J l mX11_pays (jZ0 6 G (pI φ)) G 0 0 47 [.null, .null, .null] [.int z0] μ := by
  exact j_iret dX11_pays_47 rfl (k0 )
theorem b_X11_seen_0 {l : Launch} {G : jG} {μ : jM} {φ : Int32 → jM → Prop} {x1 x2 : Int32} {ψ0 : Int32 → jM → Prop} (hG : gGG G) (hP : gPP μ) 
    (e0 : jC0 l mX11_isRoad 0 G [.ref 0, .int x1] μ (pI ψ0)) 
    (k0 : ∀ v μ', ψ0 v μ' → J l mX11_seen (jZ0 6 G (pI φ)) G 0 0 5 [.ref 0, .int x1, .int x2] [.int v] μ') :
    J l mX11_seen (jZ0 6 G (pI φ)) G 0 0 0 [.ref 0, .int x1, .int x2] [] μ := by
  refine j_aload_n dX11_seen_0 rfl rfl ?_
  refine j_iload_n dX11_seen_1 rfl rfl ?_
  refine j_cV (as := [.int x1]) (rest := []) dX11_seen_2 rfl vw_X11_105 (hG 0 (16, 9) rfl) rfl ⟨Nat.le_of_ble_eq_true rfl, Nat.le_of_ble_eq_true rfl⟩ rfl rfl (fun _ _ => Nat.le_of_ble_eq_true rfl) (e0 ) (fun r μ' hr => ?_)
  obtain ⟨v, rfl, hr⟩ := hr
  exact k0  v μ' hr
theorem b_X11_seen_5 {l : Launch} {G : jG} {μ : jM} {φ : Int32 → jM → Prop} {x1 x2 z0 : Int32} {ψ2 : jM → Prop} (hG : gGG G) (hP : gPP μ) 
    (k0 : (z0 = (0 : Int32)) → φ (-1) μ) 
    (k1 : (¬ (z0 = (0 : Int32))) → (x2 < (0 : Int32)) → φ (-1) μ) 
    (e2 : (¬ (z0 = (0 : Int32))) → (¬ (x2 < (0 : Int32))) → (x2 ≤ (60 : Int32)) → jC0 l mX1_startAnew 2 G [.ref 57] μ (pV ψ2)) 
    (k2 : (¬ (z0 = (0 : Int32))) → (¬ (x2 < (0 : Int32))) → (x2 ≤ (60 : Int32)) → ∀ μ', ψ2 μ' → J l mX11_seen (jZ0 6 G (pI φ)) G 0 0 27 [.ref 0, .int x1, .int x2] [] μ') 
    (k3 : (¬ (z0 = (0 : Int32))) → (¬ (x2 < (0 : Int32))) → (¬ (x2 ≤ (60 : Int32))) → φ (-1) μ) :
    J l mX11_seen (jZ0 6 G (pI φ)) G 0 0 5 [.ref 0, .int x1, .int x2] [.int z0] μ := by
  refine j_if_eq 18 dX11_seen_5 rfl (by decide) (fun c0 => ?_) (fun c0 => ?_)
  · skip
    refine j_iconst (-1) dX11_seen_18 rfl (by decide) ?_
    exact j_iret dX11_seen_19 rfl (k0 c0)
  · skip
    refine j_iload_n dX11_seen_8 rfl rfl ?_
    refine j_if_lt 18 dX11_seen_9 rfl (by decide) (fun c1 => ?_) (fun c1 => ?_)
    · skip
      refine j_iconst (-1) dX11_seen_18 rfl (by decide) ?_
      exact j_iret dX11_seen_19 rfl (k1 c0 c1)
    · skip
      refine j_iload_n dX11_seen_12 rfl rfl ?_
      refine j_bipush 60 dX11_seen_13 rfl (by decide) ?_
      refine j_icmp_le 20 dX11_seen_15 rfl (by decide) (fun c2 => ?_) (fun c2 => ?_)
      · skip
        refine j_aload_n dX11_seen_20 rfl rfl ?_
        refine j_getR (ci := 11) (N := 9) (f := 5) (T := TX11) 57 dX11_seen_21 rfl (hG 0 (16, 9) rfl) rfl (by decide) fl_X11_49 rfl (hP 0 5 57 rfl) ?_
        refine j_cV (as := []) (rest := []) dX11_seen_24 rfl vw_X11_186 (hG 57 (6, 9) rfl) rfl ⟨Nat.le_of_ble_eq_true rfl, Nat.le_of_ble_eq_true rfl⟩ rfl rfl (fun _ _ => Nat.le_of_ble_eq_true rfl) (e2 c0 c1 c2) (fun r μ' hr => ?_)
        obtain ⟨rfl, hr⟩ := hr
        exact k2 c0 c1 c2 μ' hr
      · skip
        refine j_iconst (-1) dX11_seen_18 rfl (by decide) ?_
        exact j_iret dX11_seen_19 rfl (k3 c0 c1 c2)
theorem b_X11_seen_27 {l : Launch} {G : jG} {μ : jM} {φ : Int32 → jM → Prop} {x1 x2 : Int32} {ψ0 : jM → Prop} (hG : gGG G) (hP : gPP μ) 
    (e0 : jC0 l mX1_run 5 G [.ref 57, .int x2] μ (pV ψ0)) 
    (k0 : ∀ μ', ψ0 μ' → J l mX11_seen (jZ0 6 G (pI φ)) G 0 0 35 [.ref 0, .int x1, .null] [] μ') :
    J l mX11_seen (jZ0 6 G (pI φ)) G 0 0 27 [.ref 0, .int x1, .int x2] [] μ := by
  refine j_aload_n dX11_seen_27 rfl rfl ?_
  refine j_getR (ci := 11) (N := 9) (f := 5) (T := TX11) 57 dX11_seen_28 rfl (hG 0 (16, 9) rfl) rfl (by decide) fl_X11_49 rfl (hP 0 5 57 rfl) ?_
  refine j_iload_n dX11_seen_31 rfl rfl ?_
  refine j_cV (as := [.int x2]) (rest := []) dX11_seen_32 rfl vw_X11_189 (hG 57 (6, 9) rfl) rfl ⟨Nat.le_of_ble_eq_true rfl, Nat.le_of_ble_eq_true rfl⟩ rfl rfl (fun _ _ => Nat.le_of_ble_eq_true rfl) (e0 ) (fun r μ' hr => ?_)
  obtain ⟨rfl, hr⟩ := hr
  refine j_forget (ls' := [.ref 0, .int x1, .null]) ⟨Or.inr rfl, Or.inr rfl, Or.inl rfl, trivial⟩ ?_
  exact k0  μ' hr
theorem b_X11_seen_35 {l : Launch} {G : jG} {μ : jM} {φ : Int32 → jM → Prop} {x1 : Int32} {ψ0 : Int32 → jM → Prop} (hG : gGG G) (hP : gPP μ) 
    (e0 : jC0 l mX1_grown 0 G [.ref 57, .int (19 + x1), .int 1] μ (pI ψ0)) 
    (k0 : ∀ v μ', ψ0 v μ' → J l mX11_seen (jZ0 6 G (pI φ)) G 0 0 47 [.null, .null, .null] [.int v] μ') :
    J l mX11_seen (jZ0 6 G (pI φ)) G 0 0 35 [.ref 0, .int x1, .null] [] μ := by
  refine j_aload_n dX11_seen_35 rfl rfl ?_
  refine j_getR (ci := 11) (N := 9) (f := 5) (T := TX11) 57 dX11_seen_36 rfl (hG 0 (16, 9) rfl) rfl (by decide) fl_X11_49 rfl (hP 0 5 57 rfl) ?_
  refine j_bipush 19 dX11_seen_39 rfl (by decide) ?_
  refine j_iload_n dX11_seen_41 rfl rfl ?_
  refine j_iadd dX11_seen_42 rfl ?_
  refine j_iconst 1 dX11_seen_43 rfl (by decide) ?_
  refine j_cV (as := [.int (19 + x1), .int 1]) (rest := []) dX11_seen_44 rfl vw_X11_192 (hG 57 (6, 9) rfl) rfl ⟨Nat.le_of_ble_eq_true rfl, Nat.le_of_ble_eq_true rfl⟩ rfl rfl (fun _ _ => Nat.le_of_ble_eq_true rfl) (e0 ) (fun r μ' hr => ?_)
  obtain ⟨v, rfl, hr⟩ := hr
  refine j_forget (ls' := [.null, .null, .null]) ⟨Or.inl rfl, Or.inl rfl, Or.inr rfl, trivial⟩ ?_
  exact k0  v μ' hr
theorem b_X11_seen_47 {l : Launch} {G : jG} {μ : jM} {φ : Int32 → jM → Prop} {z0 : Int32} (hG : gGG G) (hP : gPP μ) 
    (k0 : φ z0 μ) :
    J l mX11_seen (jZ0 6 G (pI φ)) G 0 0 47 [.null, .null, .null] [.int z0] μ := by
  exact j_iret dX11_seen_47 rfl (k0 )
theorem b_X11_busiest_0 {l : Launch} {G : jG} {μ : jM} {φ : Int32 → jM → Prop} {x1 x2 : Int32} {ψ3 : jM → Prop} {t : Nat} (hG : gGG G) (hP : gPP μ) (ht : tO gTold pTold G μ t) (q12_0 : μ.2.2 12 0 = some t) 
    (k0 : (x1 < (0 : Int32)) → φ (-1) μ) 
    (k1 : (¬ (x1 < (0 : Int32))) → (60 < (x1 : Int32)) → φ (-1) μ) 
    (k2 : (¬ (x1 < (0 : Int32))) → (¬ (60 < (x1 : Int32))) → (x2 < (0 : Int32)) → φ (-1) μ) 
    (e3 : (¬ (x1 < (0 : Int32))) → (¬ (60 < (x1 : Int32))) → (¬ (x2 < (0 : Int32))) → (x2 ≤ (1 : Int32)) → (¬ (μ.1 t 1) = (0 : Int32)) → jC0 l mX1_seekBusiest 6 G [.ref 57, .int x1] μ (pV ψ3)) 
    (k3 : (¬ (x1 < (0 : Int32))) → (¬ (60 < (x1 : Int32))) → (¬ (x2 < (0 : Int32))) → (x2 ≤ (1 : Int32)) → (¬ (μ.1 t 1) = (0 : Int32)) → ∀ μ', ψ3 μ' → J l mX11_busiest (jZ0 7 G (pI φ)) G 0 0 45 [.ref 0, .null, .int x2] [] μ') 
    (k4 : (¬ (x1 < (0 : Int32))) → (¬ (60 < (x1 : Int32))) → (¬ (x2 < (0 : Int32))) → (x2 ≤ (1 : Int32)) → ((μ.1 t 1) = (0 : Int32)) → φ (-2) μ) 
    (k5 : (¬ (x1 < (0 : Int32))) → (¬ (60 < (x1 : Int32))) → (¬ (x2 < (0 : Int32))) → (¬ (x2 ≤ (1 : Int32))) → φ (-1) μ) :
    J l mX11_busiest (jZ0 7 G (pI φ)) G 0 0 0 [.ref 0, .int x1, .int x2] [] μ := by
  refine j_iload_n dX11_busiest_0 rfl rfl ?_
  refine j_if_lt 19 dX11_busiest_1 rfl (by decide) (fun c0 => ?_) (fun c0 => ?_)
  · skip
    refine j_iconst (-1) dX11_busiest_19 rfl (by decide) ?_
    exact j_iret dX11_busiest_20 rfl (k0 c0)
  · skip
    refine j_iload_n dX11_busiest_4 rfl rfl ?_
    refine j_bipush 60 dX11_busiest_5 rfl (by decide) ?_
    refine j_icmp_gt 19 dX11_busiest_7 rfl (by decide) (fun c1 => ?_) (fun c1 => ?_)
    · skip
      refine j_iconst (-1) dX11_busiest_19 rfl (by decide) ?_
      exact j_iret dX11_busiest_20 rfl (k1 c0 c1)
    · skip
      refine j_iload_n dX11_busiest_10 rfl rfl ?_
      refine j_if_lt 19 dX11_busiest_11 rfl (by decide) (fun c2 => ?_) (fun c2 => ?_)
      · skip
        refine j_iconst (-1) dX11_busiest_19 rfl (by decide) ?_
        exact j_iret dX11_busiest_20 rfl (k2 c0 c1 c2)
      · skip
        refine j_iload_n dX11_busiest_14 rfl rfl ?_
        refine j_iconst 1 dX11_busiest_15 rfl (by decide) ?_
        refine j_icmp_le 21 dX11_busiest_16 rfl (by decide) (fun c3 => ?_) (fun c3 => ?_)
        · skip
          refine j_aload_n dX11_busiest_21 rfl rfl ?_
          refine j_getR (ci := 11) (N := 9) (f := 2) (T := TX11) 12 dX11_busiest_22 rfl (hG 0 (16, 9) rfl) rfl (by decide) fl_X11_26 rfl (hP 0 2 12 rfl) ?_
          refine j_getR (ci := 10) (N := 11) (f := 0) (T := TX10) t dX11_busiest_25 rfl (hG 12 (15, 11) rfl) rfl (by decide) fl_X11_97 rfl q12_0 ?_
          refine j_getI (ci := 8) (N := 20) (f := 1) (T := TX8) dX11_busiest_28 rfl (ht.1 0 (13, 20) rfl) rfl (by decide) fl_X11_195 rfl ?_
          refine j_if_ne 37 dX11_busiest_31 rfl (by decide) (fun c4 => ?_) (fun c4 => ?_)
          · skip
            refine j_aload_n dX11_busiest_37 rfl rfl ?_
            refine j_getR (ci := 11) (N := 9) (f := 5) (T := TX11) 57 dX11_busiest_38 rfl (hG 0 (16, 9) rfl) rfl (by decide) fl_X11_49 rfl (hP 0 5 57 rfl) ?_
            refine j_iload_n dX11_busiest_41 rfl rfl ?_
            refine j_cV (as := [.int x1]) (rest := []) dX11_busiest_42 rfl vw_X11_217 (hG 57 (6, 9) rfl) rfl ⟨Nat.le_of_ble_eq_true rfl, Nat.le_of_ble_eq_true rfl⟩ rfl rfl (fun _ _ => Nat.le_of_ble_eq_true rfl) (e3 c0 c1 c2 c3 c4) (fun r μ' hr => ?_)
            obtain ⟨rfl, hr⟩ := hr
            refine j_forget (ls' := [.ref 0, .null, .int x2]) ⟨Or.inr rfl, Or.inl rfl, Or.inr rfl, trivial⟩ ?_
            exact k3 c0 c1 c2 c3 c4 μ' hr
          · skip
            refine j_bipush (-2) dX11_busiest_34 rfl (by decide) ?_
            exact j_iret dX11_busiest_36 rfl (k4 c0 c1 c2 c3 c4)
        · skip
          refine j_iconst (-1) dX11_busiest_19 rfl (by decide) ?_
          exact j_iret dX11_busiest_20 rfl (k5 c0 c1 c2 c3)
theorem b_X11_busiest_45 {l : Launch} {G : jG} {μ : jM} {φ : Int32 → jM → Prop} {x2 : Int32} (hG : gGG G) (hP : gPP μ) 
    (k0 : (¬ x2 = (0 : Int32)) → φ (μ.1 57 0) μ) 
    (k1 : (x2 = (0 : Int32)) → φ (μ.1 57 1) μ) :
    J l mX11_busiest (jZ0 7 G (pI φ)) G 0 0 45 [.ref 0, .null, .int x2] [] μ := by
  refine j_iload_n dX11_busiest_45 rfl rfl ?_
  refine j_if_ne 59 dX11_busiest_46 rfl (by decide) (fun c0 => ?_) (fun c0 => ?_)
  · skip
    refine j_aload_n dX11_busiest_59 rfl rfl ?_
    refine j_getR (ci := 11) (N := 9) (f := 5) (T := TX11) 57 dX11_busiest_60 rfl (hG 0 (16, 9) rfl) rfl (by decide) fl_X11_49 rfl (hP 0 5 57 rfl) ?_
    refine j_getI (ci := 1) (N := 9) (f := 0) (T := TX1) dX11_busiest_63 rfl (hG 57 (6, 9) rfl) rfl (by decide) fl_X11_200 rfl ?_
    exact j_iret dX11_busiest_66 rfl (k0 c0)
  · skip
    refine j_aload_n dX11_busiest_49 rfl rfl ?_
    refine j_getR (ci := 11) (N := 9) (f := 5) (T := TX11) 57 dX11_busiest_50 rfl (hG 0 (16, 9) rfl) rfl (by decide) fl_X11_49 rfl (hP 0 5 57 rfl) ?_
    refine j_getI (ci := 1) (N := 9) (f := 1) (T := TX1) dX11_busiest_53 rfl (hG 57 (6, 9) rfl) rfl (by decide) fl_X11_203 rfl ?_
    refine j_goto 66 dX11_busiest_56 (by decide) ?_
    exact j_iret dX11_busiest_66 rfl (k1 c0)
theorem b_X11_best_0 {l : Launch} {G : jG} {μ : jM} {φ : Int32 → jM → Prop} {x1 x2 : Int32} {ψ3 : jM → Prop} (hG : gGG G) (hP : gPP μ) 
    (k0 : (x1 < (1 : Int32)) → φ (-1) μ) 
    (k1 : (¬ (x1 < (1 : Int32))) → (30 < (x1 : Int32)) → φ (-1) μ) 
    (k2 : (¬ (x1 < (1 : Int32))) → (¬ (30 < (x1 : Int32))) → (x2 < (0 : Int32)) → φ (-1) μ) 
    (e3 : (¬ (x1 < (1 : Int32))) → (¬ (30 < (x1 : Int32))) → (¬ (x2 < (0 : Int32))) → (x2 ≤ (1 : Int32)) → jC0 l mX1_seekRate 6 G [.ref 57, .int x1] μ (pV ψ3)) 
    (k3 : (¬ (x1 < (1 : Int32))) → (¬ (30 < (x1 : Int32))) → (¬ (x2 < (0 : Int32))) → (x2 ≤ (1 : Int32)) → ∀ μ', ψ3 μ' → J l mX11_best (jZ0 7 G (pI φ)) G 0 0 30 [.ref 0, .null, .int x2] [] μ') 
    (k4 : (¬ (x1 < (1 : Int32))) → (¬ (30 < (x1 : Int32))) → (¬ (x2 < (0 : Int32))) → (¬ (x2 ≤ (1 : Int32))) → φ (-1) μ) :
    J l mX11_best (jZ0 7 G (pI φ)) G 0 0 0 [.ref 0, .int x1, .int x2] [] μ := by
  refine j_iload_n dX11_best_0 rfl rfl ?_
  refine j_iconst 1 dX11_best_1 rfl (by decide) ?_
  refine j_icmp_lt 20 dX11_best_2 rfl (by decide) (fun c0 => ?_) (fun c0 => ?_)
  · skip
    refine j_iconst (-1) dX11_best_20 rfl (by decide) ?_
    exact j_iret dX11_best_21 rfl (k0 c0)
  · skip
    refine j_iload_n dX11_best_5 rfl rfl ?_
    refine j_bipush 30 dX11_best_6 rfl (by decide) ?_
    refine j_icmp_gt 20 dX11_best_8 rfl (by decide) (fun c1 => ?_) (fun c1 => ?_)
    · skip
      refine j_iconst (-1) dX11_best_20 rfl (by decide) ?_
      exact j_iret dX11_best_21 rfl (k1 c0 c1)
    · skip
      refine j_iload_n dX11_best_11 rfl rfl ?_
      refine j_if_lt 20 dX11_best_12 rfl (by decide) (fun c2 => ?_) (fun c2 => ?_)
      · skip
        refine j_iconst (-1) dX11_best_20 rfl (by decide) ?_
        exact j_iret dX11_best_21 rfl (k2 c0 c1 c2)
      · skip
        refine j_iload_n dX11_best_15 rfl rfl ?_
        refine j_iconst 1 dX11_best_16 rfl (by decide) ?_
        refine j_icmp_le 22 dX11_best_17 rfl (by decide) (fun c3 => ?_) (fun c3 => ?_)
        · skip
          refine j_aload_n dX11_best_22 rfl rfl ?_
          refine j_getR (ci := 11) (N := 9) (f := 5) (T := TX11) 57 dX11_best_23 rfl (hG 0 (16, 9) rfl) rfl (by decide) fl_X11_49 rfl (hP 0 5 57 rfl) ?_
          refine j_iload_n dX11_best_26 rfl rfl ?_
          refine j_cV (as := [.int x1]) (rest := []) dX11_best_27 rfl vw_X11_220 (hG 57 (6, 9) rfl) rfl ⟨Nat.le_of_ble_eq_true rfl, Nat.le_of_ble_eq_true rfl⟩ rfl rfl (fun _ _ => Nat.le_of_ble_eq_true rfl) (e3 c0 c1 c2 c3) (fun r μ' hr => ?_)
          obtain ⟨rfl, hr⟩ := hr
          refine j_forget (ls' := [.ref 0, .null, .int x2]) ⟨Or.inr rfl, Or.inl rfl, Or.inr rfl, trivial⟩ ?_
          exact k3 c0 c1 c2 c3 μ' hr
        · skip
          refine j_iconst (-1) dX11_best_20 rfl (by decide) ?_
          exact j_iret dX11_best_21 rfl (k4 c0 c1 c2 c3)
theorem b_X11_best_30 {l : Launch} {G : jG} {μ : jM} {φ : Int32 → jM → Prop} {x2 : Int32} (hG : gGG G) (hP : gPP μ) 
    (k0 : (¬ x2 = (0 : Int32)) → φ (μ.1 57 0) μ) 
    (k1 : (x2 = (0 : Int32)) → φ (μ.1 57 1) μ) :
    J l mX11_best (jZ0 7 G (pI φ)) G 0 0 30 [.ref 0, .null, .int x2] [] μ := by
  refine j_iload_n dX11_best_30 rfl rfl ?_
  refine j_if_ne 44 dX11_best_31 rfl (by decide) (fun c0 => ?_) (fun c0 => ?_)
  · skip
    refine j_aload_n dX11_best_44 rfl rfl ?_
    refine j_getR (ci := 11) (N := 9) (f := 5) (T := TX11) 57 dX11_best_45 rfl (hG 0 (16, 9) rfl) rfl (by decide) fl_X11_49 rfl (hP 0 5 57 rfl) ?_
    refine j_getI (ci := 1) (N := 9) (f := 0) (T := TX1) dX11_best_48 rfl (hG 57 (6, 9) rfl) rfl (by decide) fl_X11_200 rfl ?_
    exact j_iret dX11_best_51 rfl (k0 c0)
  · skip
    refine j_aload_n dX11_best_34 rfl rfl ?_
    refine j_getR (ci := 11) (N := 9) (f := 5) (T := TX11) 57 dX11_best_35 rfl (hG 0 (16, 9) rfl) rfl (by decide) fl_X11_49 rfl (hP 0 5 57 rfl) ?_
    refine j_getI (ci := 1) (N := 9) (f := 1) (T := TX1) dX11_best_38 rfl (hG 57 (6, 9) rfl) rfl (by decide) fl_X11_203 rfl ?_
    refine j_goto 51 dX11_best_41 (by decide) ?_
    exact j_iret dX11_best_51 rfl (k1 c0)
theorem b_X11_keepers_0 {l : Launch} {G : jG} {μ : jM} {φ : Int32 → jM → Prop} {x1 x2 : Int32} {ψ2 : jM → Prop} (hG : gGG G) (hP : gPP μ) 
    (k0 : (x1 < (1 : Int32)) → φ (-1) μ) 
    (k1 : (¬ (x1 < (1 : Int32))) → (9 < (x1 : Int32)) → φ (-1) μ) 
    (e2 : (¬ (x1 < (1 : Int32))) → (¬ (9 < (x1 : Int32))) → ((-1) ≤ (x2 : Int32)) → jC0 l mX1_takeByKeepers 6 G [.ref 57, .int x1] μ (pV ψ2)) 
    (k2 : (¬ (x1 < (1 : Int32))) → (¬ (9 < (x1 : Int32))) → ((-1) ≤ (x2 : Int32)) → ∀ μ', ψ2 μ' → J l mX11_keepers (jZ0 7 G (pI φ)) G 0 0 26 [.ref 0, .null, .int x2] [] μ') 
    (k3 : (¬ (x1 < (1 : Int32))) → (¬ (9 < (x1 : Int32))) → (¬ ((-1) ≤ (x2 : Int32))) → φ (-1) μ) :
    J l mX11_keepers (jZ0 7 G (pI φ)) G 0 0 0 [.ref 0, .int x1, .int x2] [] μ := by
  refine j_iload_n dX11_keepers_0 rfl rfl ?_
  refine j_iconst 1 dX11_keepers_1 rfl (by decide) ?_
  refine j_icmp_lt 16 dX11_keepers_2 rfl (by decide) (fun c0 => ?_) (fun c0 => ?_)
  · skip
    refine j_iconst (-1) dX11_keepers_16 rfl (by decide) ?_
    exact j_iret dX11_keepers_17 rfl (k0 c0)
  · skip
    refine j_iload_n dX11_keepers_5 rfl rfl ?_
    refine j_bipush 9 dX11_keepers_6 rfl (by decide) ?_
    refine j_icmp_gt 16 dX11_keepers_8 rfl (by decide) (fun c1 => ?_) (fun c1 => ?_)
    · skip
      refine j_iconst (-1) dX11_keepers_16 rfl (by decide) ?_
      exact j_iret dX11_keepers_17 rfl (k1 c0 c1)
    · skip
      refine j_iload_n dX11_keepers_11 rfl rfl ?_
      refine j_iconst (-1) dX11_keepers_12 rfl (by decide) ?_
      refine j_icmp_ge 18 dX11_keepers_13 rfl (by decide) (fun c2 => ?_) (fun c2 => ?_)
      · skip
        refine j_aload_n dX11_keepers_18 rfl rfl ?_
        refine j_getR (ci := 11) (N := 9) (f := 5) (T := TX11) 57 dX11_keepers_19 rfl (hG 0 (16, 9) rfl) rfl (by decide) fl_X11_49 rfl (hP 0 5 57 rfl) ?_
        refine j_iload_n dX11_keepers_22 rfl rfl ?_
        refine j_cV (as := [.int x1]) (rest := []) dX11_keepers_23 rfl vw_X11_223 (hG 57 (6, 9) rfl) rfl ⟨Nat.le_of_ble_eq_true rfl, Nat.le_of_ble_eq_true rfl⟩ rfl rfl (fun _ _ => Nat.le_of_ble_eq_true rfl) (e2 c0 c1 c2) (fun r μ' hr => ?_)
        obtain ⟨rfl, hr⟩ := hr
        refine j_forget (ls' := [.ref 0, .null, .int x2]) ⟨Or.inr rfl, Or.inl rfl, Or.inr rfl, trivial⟩ ?_
        exact k2 c0 c1 c2 μ' hr
      · skip
        refine j_iconst (-1) dX11_keepers_16 rfl (by decide) ?_
        exact j_iret dX11_keepers_17 rfl (k3 c0 c1 c2)
theorem b_X11_keepers_26 {l : Launch} {G : jG} {μ : jM} {φ : Int32 → jM → Prop} {x2 : Int32} {ψ0 : Int32 → jM → Prop} (hG : gGG G) (hP : gPP μ) 
    (e0 : jC0 l mX1_rest 1 G [.ref 57, .int x2] μ (pI ψ0)) 
    (k0 : ∀ v μ', ψ0 v μ' → J l mX11_keepers (jZ0 7 G (pI φ)) G 0 0 34 [.null, .null, .null] [.int v] μ') :
    J l mX11_keepers (jZ0 7 G (pI φ)) G 0 0 26 [.ref 0, .null, .int x2] [] μ := by
  refine j_aload_n dX11_keepers_26 rfl rfl ?_
  refine j_getR (ci := 11) (N := 9) (f := 5) (T := TX11) 57 dX11_keepers_27 rfl (hG 0 (16, 9) rfl) rfl (by decide) fl_X11_49 rfl (hP 0 5 57 rfl) ?_
  refine j_iload_n dX11_keepers_30 rfl rfl ?_
  refine j_cV (as := [.int x2]) (rest := []) dX11_keepers_31 rfl vw_X11_226 (hG 57 (6, 9) rfl) rfl ⟨Nat.le_of_ble_eq_true rfl, Nat.le_of_ble_eq_true rfl⟩ rfl rfl (fun _ _ => Nat.le_of_ble_eq_true rfl) (e0 ) (fun r μ' hr => ?_)
  obtain ⟨v, rfl, hr⟩ := hr
  refine j_forget (ls' := [.null, .null, .null]) ⟨Or.inl rfl, Or.inr rfl, Or.inl rfl, trivial⟩ ?_
  exact k0  v μ' hr
theorem b_X11_keepers_34 {l : Launch} {G : jG} {μ : jM} {φ : Int32 → jM → Prop} {z0 : Int32} (hG : gGG G) (hP : gPP μ) 
    (k0 : φ z0 μ) :
    J l mX11_keepers (jZ0 7 G (pI φ)) G 0 0 34 [.null, .null, .null] [.int z0] μ := by
  exact j_iret dX11_keepers_34 rfl (k0 )
theorem b_X11_breaks_0 {l : Launch} {G : jG} {μ : jM} {φ : Int32 → jM → Prop} {x1 : Int32} {ψ0 : Int32 → jM → Prop} (hG : gGG G) (hP : gPP μ) 
    (e0 : jC0 l mX11_isRoad 0 G [.ref 0, .int x1] μ (pI ψ0)) 
    (k0 : ∀ v μ', ψ0 v μ' → J l mX11_breaks (jZ0 6 G (pI φ)) G 0 0 5 [.ref 0, .int x1] [.int v] μ') :
    J l mX11_breaks (jZ0 6 G (pI φ)) G 0 0 0 [.ref 0, .int x1] [] μ := by
  refine j_aload_n dX11_breaks_0 rfl rfl ?_
  refine j_iload_n dX11_breaks_1 rfl rfl ?_
  refine j_cV (as := [.int x1]) (rest := []) dX11_breaks_2 rfl vw_X11_105 (hG 0 (16, 9) rfl) rfl ⟨Nat.le_of_ble_eq_true rfl, Nat.le_of_ble_eq_true rfl⟩ rfl rfl (fun _ _ => Nat.le_of_ble_eq_true rfl) (e0 ) (fun r μ' hr => ?_)
  obtain ⟨v, rfl, hr⟩ := hr
  exact k0  v μ' hr
theorem b_X11_breaks_5 {l : Launch} {G : jG} {μ : jM} {φ : Int32 → jM → Prop} {x1 z0 : Int32} {ψ1 : Int32 → jM → Prop} (hG : gGG G) (hP : gPP μ) 
    (k0 : (z0 = (0 : Int32)) → φ (-1) μ) 
    (e1 : (¬ (z0 = (0 : Int32))) → jC0 l mX1_nightsUntilBroken 5 G [.ref 57, .int x1] μ (pI ψ1)) 
    (k1 : (¬ (z0 = (0 : Int32))) → ∀ v μ', ψ1 v μ' → J l mX11_breaks (jZ0 6 G (pI φ)) G 0 0 16 [.null, .null] [.int v] μ') :
    J l mX11_breaks (jZ0 6 G (pI φ)) G 0 0 5 [.ref 0, .int x1] [.int z0] μ := by
  refine j_if_eq 19 dX11_breaks_5 rfl (by decide) (fun c0 => ?_) (fun c0 => ?_)
  · skip
    refine j_iconst (-1) dX11_breaks_19 rfl (by decide) ?_
    exact j_iret dX11_breaks_20 rfl (k0 c0)
  · skip
    refine j_aload_n dX11_breaks_8 rfl rfl ?_
    refine j_getR (ci := 11) (N := 9) (f := 5) (T := TX11) 57 dX11_breaks_9 rfl (hG 0 (16, 9) rfl) rfl (by decide) fl_X11_49 rfl (hP 0 5 57 rfl) ?_
    refine j_iload_n dX11_breaks_12 rfl rfl ?_
    refine j_cV (as := [.int x1]) (rest := []) dX11_breaks_13 rfl vw_X11_229 (hG 57 (6, 9) rfl) rfl ⟨Nat.le_of_ble_eq_true rfl, Nat.le_of_ble_eq_true rfl⟩ rfl rfl (fun _ _ => Nat.le_of_ble_eq_true rfl) (e1 c0) (fun r μ' hr => ?_)
    obtain ⟨v, rfl, hr⟩ := hr
    refine j_forget (ls' := [.null, .null]) ⟨Or.inl rfl, Or.inl rfl, trivial⟩ ?_
    exact k1 c0 v μ' hr
theorem b_X11_breaks_16 {l : Launch} {G : jG} {μ : jM} {φ : Int32 → jM → Prop} {z0 : Int32} (hG : gGG G) (hP : gPP μ) 
    (k0 : φ z0 μ) :
    J l mX11_breaks (jZ0 6 G (pI φ)) G 0 0 16 [.null, .null] [.int z0] μ := by
  refine j_goto 20 dX11_breaks_16 (by decide) ?_
  exact j_iret dX11_breaks_20 rfl (k0 )
theorem b_X11_first_0 {l : Launch} {G : jG} {μ : jM} {φ : Int32 → jM → Prop} {x1 : Int32} {ψ1 : jM → Prop} (hG : gGG G) (hP : gPP μ) 
    (k0 : (x1 < (0 : Int32)) → φ (-1) μ) 
    (e1 : (¬ (x1 < (0 : Int32))) → (x1 ≤ (1 : Int32)) → jC0 l mX1_seekFirstBroken 5 G [.ref 57] μ (pV ψ1)) 
    (k1 : (¬ (x1 < (0 : Int32))) → (x1 ≤ (1 : Int32)) → ∀ μ', ψ1 μ' → J l mX11_first (jZ0 6 G (pI φ)) G 0 0 18 [.ref 0, .int x1] [] μ') 
    (k2 : (¬ (x1 < (0 : Int32))) → (¬ (x1 ≤ (1 : Int32))) → φ (-1) μ) :
    J l mX11_first (jZ0 6 G (pI φ)) G 0 0 0 [.ref 0, .int x1] [] μ := by
  refine j_iload_n dX11_first_0 rfl rfl ?_
  refine j_if_lt 9 dX11_first_1 rfl (by decide) (fun c0 => ?_) (fun c0 => ?_)
  · skip
    refine j_iconst (-1) dX11_first_9 rfl (by decide) ?_
    exact j_iret dX11_first_10 rfl (k0 c0)
  · skip
    refine j_iload_n dX11_first_4 rfl rfl ?_
    refine j_iconst 1 dX11_first_5 rfl (by decide) ?_
    refine j_icmp_le 11 dX11_first_6 rfl (by decide) (fun c1 => ?_) (fun c1 => ?_)
    · skip
      refine j_aload_n dX11_first_11 rfl rfl ?_
      refine j_getR (ci := 11) (N := 9) (f := 5) (T := TX11) 57 dX11_first_12 rfl (hG 0 (16, 9) rfl) rfl (by decide) fl_X11_49 rfl (hP 0 5 57 rfl) ?_
      refine j_cV (as := []) (rest := []) dX11_first_15 rfl vw_X11_232 (hG 57 (6, 9) rfl) rfl ⟨Nat.le_of_ble_eq_true rfl, Nat.le_of_ble_eq_true rfl⟩ rfl rfl (fun _ _ => Nat.le_of_ble_eq_true rfl) (e1 c0 c1) (fun r μ' hr => ?_)
      obtain ⟨rfl, hr⟩ := hr
      exact k1 c0 c1 μ' hr
    · skip
      refine j_iconst (-1) dX11_first_9 rfl (by decide) ?_
      exact j_iret dX11_first_10 rfl (k2 c0 c1)
theorem b_X11_first_18 {l : Launch} {G : jG} {μ : jM} {φ : Int32 → jM → Prop} {x1 : Int32} (hG : gGG G) (hP : gPP μ) 
    (k0 : (¬ x1 = (0 : Int32)) → φ (μ.1 57 0) μ) 
    (k1 : (x1 = (0 : Int32)) → φ (μ.1 57 1) μ) :
    J l mX11_first (jZ0 6 G (pI φ)) G 0 0 18 [.ref 0, .int x1] [] μ := by
  refine j_iload_n dX11_first_18 rfl rfl ?_
  refine j_if_ne 32 dX11_first_19 rfl (by decide) (fun c0 => ?_) (fun c0 => ?_)
  · skip
    refine j_aload_n dX11_first_32 rfl rfl ?_
    refine j_getR (ci := 11) (N := 9) (f := 5) (T := TX11) 57 dX11_first_33 rfl (hG 0 (16, 9) rfl) rfl (by decide) fl_X11_49 rfl (hP 0 5 57 rfl) ?_
    refine j_getI (ci := 1) (N := 9) (f := 0) (T := TX1) dX11_first_36 rfl (hG 57 (6, 9) rfl) rfl (by decide) fl_X11_200 rfl ?_
    exact j_iret dX11_first_39 rfl (k0 c0)
  · skip
    refine j_aload_n dX11_first_22 rfl rfl ?_
    refine j_getR (ci := 11) (N := 9) (f := 5) (T := TX11) 57 dX11_first_23 rfl (hG 0 (16, 9) rfl) rfl (by decide) fl_X11_49 rfl (hP 0 5 57 rfl) ?_
    refine j_getI (ci := 1) (N := 9) (f := 1) (T := TX1) dX11_first_26 rfl (hG 57 (6, 9) rfl) rfl (by decide) fl_X11_203 rfl ?_
    refine j_goto 39 dX11_first_29 (by decide) ?_
    exact j_iret dX11_first_39 rfl (k1 c0)
theorem b_X11_meets_0 {l : Launch} {G : jG} {μ : jM} {φ : Int32 → jM → Prop} {x1 x2 : Int32} {ψ0 : Int32 → jM → Prop} (hG : gGG G) (hP : gPP μ) 
    (e0 : jC0 l mX11_isGhost 0 G [.ref 0, .int x1] μ (pI ψ0)) 
    (k0 : ∀ v μ', ψ0 v μ' → J l mX11_meets (jZ0 1 G (pI φ)) G 0 0 5 [.ref 0, .int x1, .int x2, .null, .null] [.int v] μ') :
    J l mX11_meets (jZ0 1 G (pI φ)) G 0 0 0 [.ref 0, .int x1, .int x2, .null, .null] [] μ := by
  refine j_aload_n dX11_meets_0 rfl rfl ?_
  refine j_iload_n dX11_meets_1 rfl rfl ?_
  refine j_cV (as := [.int x1]) (rest := []) dX11_meets_2 rfl vw_X11_128 (hG 0 (16, 9) rfl) rfl ⟨Nat.le_of_ble_eq_true rfl, Nat.le_of_ble_eq_true rfl⟩ rfl rfl (fun _ _ => Nat.le_of_ble_eq_true rfl) (e0 ) (fun r μ' hr => ?_)
  obtain ⟨v, rfl, hr⟩ := hr
  exact k0  v μ' hr
theorem b_X11_meets_5 {l : Launch} {G : jG} {μ : jM} {φ : Int32 → jM → Prop} {x1 x2 z0 : Int32} {ψ1 : Int32 → jM → Prop} (hG : gGG G) (hP : gPP μ) 
    (k0 : (z0 = (0 : Int32)) → φ (-1) μ) 
    (e1 : (¬ (z0 = (0 : Int32))) → jC0 l mX11_isGhost 0 G [.ref 0, .int x2] μ (pI ψ1)) 
    (k1 : (¬ (z0 = (0 : Int32))) → ∀ v μ', ψ1 v μ' → J l mX11_meets (jZ0 1 G (pI φ)) G 0 0 13 [.ref 0, .int x1, .int x2, .null, .null] [.int v] μ') :
    J l mX11_meets (jZ0 1 G (pI φ)) G 0 0 5 [.ref 0, .int x1, .int x2, .null, .null] [.int z0] μ := by
  refine j_if_eq 21 dX11_meets_5 rfl (by decide) (fun c0 => ?_) (fun c0 => ?_)
  · skip
    refine j_iconst (-1) dX11_meets_21 rfl (by decide) ?_
    exact j_iret dX11_meets_22 rfl (k0 c0)
  · skip
    refine j_aload_n dX11_meets_8 rfl rfl ?_
    refine j_iload_n dX11_meets_9 rfl rfl ?_
    refine j_cV (as := [.int x2]) (rest := []) dX11_meets_10 rfl vw_X11_128 (hG 0 (16, 9) rfl) rfl ⟨Nat.le_of_ble_eq_true rfl, Nat.le_of_ble_eq_true rfl⟩ rfl rfl (fun _ _ => Nat.le_of_ble_eq_true rfl) (e1 c0) (fun r μ' hr => ?_)
    obtain ⟨v, rfl, hr⟩ := hr
    exact k1 c0 v μ' hr
theorem b_X11_meets_13 {l : Launch} {G : jG} {μ : jM} {φ : Int32 → jM → Prop} {x1 x2 z0 : Int32} {t : Nat} (hG : gGG G) (hP : gPP μ) (ht : tO gTold pTold G μ t) (q12_0 : μ.2.2 12 0 = some t) 
    (k0 : (z0 = (0 : Int32)) → φ (-1) μ) 
    (k1 : (¬ (z0 = (0 : Int32))) → (¬ x1 = (x2 : Int32)) → J l mX11_meets (jZ0 1 G (pI φ)) G 0 0 42 [.null, .int x1, .int x2, .ref t, .int (μ.1 53 0)] [] μ) 
    (k2 : (¬ (z0 = (0 : Int32))) → (x1 = (x2 : Int32)) → φ (-1) μ) :
    J l mX11_meets (jZ0 1 G (pI φ)) G 0 0 13 [.ref 0, .int x1, .int x2, .null, .null] [.int z0] μ := by
  refine j_if_eq 21 dX11_meets_13 rfl (by decide) (fun c0 => ?_) (fun c0 => ?_)
  · skip
    refine j_iconst (-1) dX11_meets_21 rfl (by decide) ?_
    exact j_iret dX11_meets_22 rfl (k0 c0)
  · skip
    refine j_iload_n dX11_meets_16 rfl rfl ?_
    refine j_iload_n dX11_meets_17 rfl rfl ?_
    refine j_icmp_ne 23 dX11_meets_18 rfl (by decide) (fun c1 => ?_) (fun c1 => ?_)
    · skip
      refine j_aload_n dX11_meets_23 rfl rfl ?_
      refine j_getR (ci := 11) (N := 9) (f := 2) (T := TX11) 12 dX11_meets_24 rfl (hG 0 (16, 9) rfl) rfl (by decide) fl_X11_26 rfl (hP 0 2 12 rfl) ?_
      refine j_getR (ci := 10) (N := 11) (f := 0) (T := TX10) t dX11_meets_27 rfl (hG 12 (15, 11) rfl) rfl (by decide) fl_X11_97 rfl q12_0 ?_
      refine j_astore_n (ls' := [.ref 0, .int x1, .int x2, .ref t, .null]) dX11_meets_30 rfl rfl (Nat.le_of_ble_eq_true rfl) rfl ?_
      refine j_aload_n dX11_meets_31 rfl rfl ?_
      refine j_getR (ci := 11) (N := 9) (f := 3) (T := TX11) 52 dX11_meets_32 rfl (hG 0 (16, 9) rfl) rfl (by decide) fl_X11_33 rfl (hP 0 3 52 rfl) ?_
      refine j_getR (ci := 5) (N := 1) (f := 0) (T := TX5) 53 dX11_meets_35 rfl (hG 52 (10, 1) rfl) rfl (by decide) fl_X11_122 rfl (hP 52 0 53 rfl) ?_
      refine j_iconst 0 dX11_meets_38 rfl (by decide) ?_
      refine j_iald' (j := 0) dX11_meets_39 rfl (hG 53 (0, 71) rfl) (vpK (by decide)) (by decide) ?_
      refine j_istore (ls' := [.ref 0, .int x1, .int x2, .ref t, .int (μ.1 53 0)]) dX11_meets_40 rfl (Nat.le_of_ble_eq_true rfl) rfl ?_
      refine j_forget (ls' := [.null, .int x1, .int x2, .ref t, .int (μ.1 53 0)]) ⟨Or.inl rfl, Or.inr rfl, Or.inr rfl, Or.inr rfl, Or.inr rfl, trivial⟩ ?_
      exact k1 c0 c1
    · skip
      refine j_iconst (-1) dX11_meets_21 rfl (by decide) ?_
      exact j_iret dX11_meets_22 rfl (k2 c0 c1)
theorem b_X11_meets_42 {l : Launch} {G : jG} {μ : jM} {φ : Int32 → jM → Prop} {x1 x2 x4 : Int32} {ψ1 : Int32 → jM → Prop} {t : Nat} (hG : gGG G) (hP : gPP μ) (ht : tO gTold pTold G μ t) 
    (k0 : (99 < (x4 : Int32)) → φ (-2) μ) 
    (e1 : (¬ (99 < (x4 : Int32))) → jC0 l mX8_isNightOf 0 G [.ref t, .int x1, .int x4] μ (pI ψ1)) 
    (k1 : (¬ (99 < (x4 : Int32))) → ∀ v μ', ψ1 v μ' → J l mX11_meets (jZ0 1 G (pI φ)) G 0 0 56 [.null, .int x1, .int x2, .ref t, .int x4] [.int v] μ') :
    J l mX11_meets (jZ0 1 G (pI φ)) G 0 0 42 [.null, .int x1, .int x2, .ref t, .int x4] [] μ := by
  refine j_iload dX11_meets_42 rfl rfl ?_
  refine j_bipush 99 dX11_meets_44 rfl (by decide) ?_
  refine j_icmp_gt 78 dX11_meets_46 rfl (by decide) (fun c0 => ?_) (fun c0 => ?_)
  · skip
    refine j_bipush (-2) dX11_meets_78 rfl (by decide) ?_
    exact j_iret dX11_meets_80 rfl (k0 c0)
  · skip
    refine j_aload_n dX11_meets_49 rfl rfl ?_
    refine j_iload_n dX11_meets_50 rfl rfl ?_
    refine j_iload dX11_meets_51 rfl rfl ?_
    refine j_cV (as := [.int x1, .int x4]) (rest := []) dX11_meets_53 rfl vw_X11_140 (ht.1 0 (13, 20) rfl) rfl ⟨Nat.le_of_ble_eq_true rfl, Nat.le_of_ble_eq_true rfl⟩ rfl rfl (fun _ _ => Nat.le_of_ble_eq_true rfl) (e1 c0) (fun r μ' hr => ?_)
    obtain ⟨v, rfl, hr⟩ := hr
    exact k1 c0 v μ' hr
theorem b_X11_meets_56 {l : Launch} {G : jG} {μ : jM} {φ : Int32 → jM → Prop} {x1 x2 x4 z0 : Int32} {ψ1 : Int32 → jM → Prop} {t : Nat} (hG : gGG G) (hP : gPP μ) (ht : tO gTold pTold G μ t) 
    (k0 : (z0 = (0 : Int32)) → J l mX11_meets (jZ0 1 G (pI φ)) G 0 0 42 [.null, .int x1, .int x2, .ref t, .int (x4 + 1)] [] μ) 
    (e1 : (¬ (z0 = (0 : Int32))) → jC0 l mX8_isNightOf 0 G [.ref t, .int x2, .int x4] μ (pI ψ1)) 
    (k1 : (¬ (z0 = (0 : Int32))) → ∀ v μ', ψ1 v μ' → J l mX11_meets (jZ0 1 G (pI φ)) G 0 0 66 [.null, .int x1, .int x2, .ref t, .int x4] [.int v] μ') :
    J l mX11_meets (jZ0 1 G (pI φ)) G 0 0 56 [.null, .int x1, .int x2, .ref t, .int x4] [.int z0] μ := by
  refine j_if_eq 72 dX11_meets_56 rfl (by decide) (fun c0 => ?_) (fun c0 => ?_)
  · skip
    refine j_iinc (x4 + 1) (ls' := [.null, .int x1, .int x2, .ref t, .int (x4 + 1)]) dX11_meets_72 rfl rfl rfl (Nat.le_of_ble_eq_true rfl) rfl ?_
    refine j_goto 42 dX11_meets_75 (by decide) ?_
    exact k0 c0
  · skip
    refine j_aload_n dX11_meets_59 rfl rfl ?_
    refine j_iload_n dX11_meets_60 rfl rfl ?_
    refine j_iload dX11_meets_61 rfl rfl ?_
    refine j_cV (as := [.int x2, .int x4]) (rest := []) dX11_meets_63 rfl vw_X11_140 (ht.1 0 (13, 20) rfl) rfl ⟨Nat.le_of_ble_eq_true rfl, Nat.le_of_ble_eq_true rfl⟩ rfl rfl (fun _ _ => Nat.le_of_ble_eq_true rfl) (e1 c0) (fun r μ' hr => ?_)
    obtain ⟨v, rfl, hr⟩ := hr
    exact k1 c0 v μ' hr
theorem b_X11_meets_66 {l : Launch} {G : jG} {μ : jM} {φ : Int32 → jM → Prop} {x1 x2 x4 z0 : Int32} {t : Nat} (hG : gGG G) (hP : gPP μ) (ht : tO gTold pTold G μ t) 
    (k0 : (z0 = (0 : Int32)) → J l mX11_meets (jZ0 1 G (pI φ)) G 0 0 42 [.null, .int x1, .int x2, .ref t, .int (x4 + 1)] [] μ) 
    (k1 : (¬ (z0 = (0 : Int32))) → φ x4 μ) :
    J l mX11_meets (jZ0 1 G (pI φ)) G 0 0 66 [.null, .int x1, .int x2, .ref t, .int x4] [.int z0] μ := by
  refine j_if_eq 72 dX11_meets_66 rfl (by decide) (fun c0 => ?_) (fun c0 => ?_)
  · skip
    refine j_iinc (x4 + 1) (ls' := [.null, .int x1, .int x2, .ref t, .int (x4 + 1)]) dX11_meets_72 rfl rfl rfl (Nat.le_of_ble_eq_true rfl) rfl ?_
    refine j_goto 42 dX11_meets_75 (by decide) ?_
    exact k0 c0
  · skip
    refine j_iload dX11_meets_69 rfl rfl ?_
    exact j_iret dX11_meets_71 rfl (k1 c0)
theorem b_X11_cutOff_0 {l : Launch} {G : jG} {μ : jM} {φ : Int32 → jM → Prop} {x1 : Int32} {ψ0 : Int32 → jM → Prop} (hG : gGG G) (hP : gPP μ) 
    (e0 : jC0 l mX11_isGhost 0 G [.ref 0, .int x1] μ (pI ψ0)) 
    (k0 : ∀ v μ', ψ0 v μ' → J l mX11_cutOff (jZ0 6 G (pI φ)) G 0 0 5 [.ref 0, .int x1] [.int v] μ') :
    J l mX11_cutOff (jZ0 6 G (pI φ)) G 0 0 0 [.ref 0, .int x1] [] μ := by
  refine j_aload_n dX11_cutOff_0 rfl rfl ?_
  refine j_iload_n dX11_cutOff_1 rfl rfl ?_
  refine j_cV (as := [.int x1]) (rest := []) dX11_cutOff_2 rfl vw_X11_128 (hG 0 (16, 9) rfl) rfl ⟨Nat.le_of_ble_eq_true rfl, Nat.le_of_ble_eq_true rfl⟩ rfl rfl (fun _ _ => Nat.le_of_ble_eq_true rfl) (e0 ) (fun r μ' hr => ?_)
  obtain ⟨v, rfl, hr⟩ := hr
  exact k0  v μ' hr
theorem b_X11_cutOff_5 {l : Launch} {G : jG} {μ : jM} {φ : Int32 → jM → Prop} {x1 z0 : Int32} {ψ1 : Int32 → jM → Prop} (hG : gGG G) (hP : gPP μ) 
    (k0 : (z0 = (0 : Int32)) → φ (-1) μ) 
    (e1 : (¬ (z0 = (0 : Int32))) → jC0 l mX1_nightsUntilCutOff 5 G [.ref 57, .int x1] μ (pI ψ1)) 
    (k1 : (¬ (z0 = (0 : Int32))) → ∀ v μ', ψ1 v μ' → J l mX11_cutOff (jZ0 6 G (pI φ)) G 0 0 16 [.null, .null] [.int v] μ') :
    J l mX11_cutOff (jZ0 6 G (pI φ)) G 0 0 5 [.ref 0, .int x1] [.int z0] μ := by
  refine j_if_eq 19 dX11_cutOff_5 rfl (by decide) (fun c0 => ?_) (fun c0 => ?_)
  · skip
    refine j_iconst (-1) dX11_cutOff_19 rfl (by decide) ?_
    exact j_iret dX11_cutOff_20 rfl (k0 c0)
  · skip
    refine j_aload_n dX11_cutOff_8 rfl rfl ?_
    refine j_getR (ci := 11) (N := 9) (f := 5) (T := TX11) 57 dX11_cutOff_9 rfl (hG 0 (16, 9) rfl) rfl (by decide) fl_X11_49 rfl (hP 0 5 57 rfl) ?_
    refine j_iload_n dX11_cutOff_12 rfl rfl ?_
    refine j_cV (as := [.int x1]) (rest := []) dX11_cutOff_13 rfl vw_X11_235 (hG 57 (6, 9) rfl) rfl ⟨Nat.le_of_ble_eq_true rfl, Nat.le_of_ble_eq_true rfl⟩ rfl rfl (fun _ _ => Nat.le_of_ble_eq_true rfl) (e1 c0) (fun r μ' hr => ?_)
    obtain ⟨v, rfl, hr⟩ := hr
    refine j_forget (ls' := [.null, .null]) ⟨Or.inl rfl, Or.inl rfl, trivial⟩ ?_
    exact k1 c0 v μ' hr
theorem b_X11_cutOff_16 {l : Launch} {G : jG} {μ : jM} {φ : Int32 → jM → Prop} {z0 : Int32} (hG : gGG G) (hP : gPP μ) 
    (k0 : φ z0 μ) :
    J l mX11_cutOff (jZ0 6 G (pI φ)) G 0 0 16 [.null, .null] [.int z0] μ := by
  refine j_goto 20 dX11_cutOff_16 (by decide) ?_
  exact j_iret dX11_cutOff_20 rfl (k0 )
theorem b_X11_year_0 {l : Launch} {G : jG} {μ : jM} {φ : Int32 → jM → Prop} {x1 x2 : Int32} {ψ3 : Int32 → jM → Prop} (hG : gGG G) (hP : gPP μ) 
    (k0 : (x1 < (0 : Int32)) → φ (-1) μ) 
    (k1 : (¬ (x1 < (0 : Int32))) → (60 < (x1 : Int32)) → φ (-1) μ) 
    (k2 : (¬ (x1 < (0 : Int32))) → (¬ (60 < (x1 : Int32))) → (x2 < (1 : Int32)) → φ (-1) μ) 
    (e3 : (¬ (x1 < (0 : Int32))) → (¬ (60 < (x1 : Int32))) → (¬ (x2 < (1 : Int32))) → (x2 ≤ (20 : Int32)) → jC0 l mX1_growthBySeeds 6 G [.ref 57, .int x1, .int x2] μ (pI ψ3)) 
    (k3 : (¬ (x1 < (0 : Int32))) → (¬ (60 < (x1 : Int32))) → (¬ (x2 < (1 : Int32))) → (x2 ≤ (20 : Int32)) → ∀ v μ', ψ3 v μ' → J l mX11_year (jZ0 7 G (pI φ)) G 0 0 32 [.null, .null, .null] [.int v] μ') 
    (k4 : (¬ (x1 < (0 : Int32))) → (¬ (60 < (x1 : Int32))) → (¬ (x2 < (1 : Int32))) → (¬ (x2 ≤ (20 : Int32))) → φ (-1) μ) :
    J l mX11_year (jZ0 7 G (pI φ)) G 0 0 0 [.ref 0, .int x1, .int x2] [] μ := by
  refine j_iload_n dX11_year_0 rfl rfl ?_
  refine j_if_lt 21 dX11_year_1 rfl (by decide) (fun c0 => ?_) (fun c0 => ?_)
  · skip
    refine j_iconst (-1) dX11_year_21 rfl (by decide) ?_
    exact j_iret dX11_year_22 rfl (k0 c0)
  · skip
    refine j_iload_n dX11_year_4 rfl rfl ?_
    refine j_bipush 60 dX11_year_5 rfl (by decide) ?_
    refine j_icmp_gt 21 dX11_year_7 rfl (by decide) (fun c1 => ?_) (fun c1 => ?_)
    · skip
      refine j_iconst (-1) dX11_year_21 rfl (by decide) ?_
      exact j_iret dX11_year_22 rfl (k1 c0 c1)
    · skip
      refine j_iload_n dX11_year_10 rfl rfl ?_
      refine j_iconst 1 dX11_year_11 rfl (by decide) ?_
      refine j_icmp_lt 21 dX11_year_12 rfl (by decide) (fun c2 => ?_) (fun c2 => ?_)
      · skip
        refine j_iconst (-1) dX11_year_21 rfl (by decide) ?_
        exact j_iret dX11_year_22 rfl (k2 c0 c1 c2)
      · skip
        refine j_iload_n dX11_year_15 rfl rfl ?_
        refine j_bipush 20 dX11_year_16 rfl (by decide) ?_
        refine j_icmp_le 23 dX11_year_18 rfl (by decide) (fun c3 => ?_) (fun c3 => ?_)
        · skip
          refine j_aload_n dX11_year_23 rfl rfl ?_
          refine j_getR (ci := 11) (N := 9) (f := 5) (T := TX11) 57 dX11_year_24 rfl (hG 0 (16, 9) rfl) rfl (by decide) fl_X11_49 rfl (hP 0 5 57 rfl) ?_
          refine j_iload_n dX11_year_27 rfl rfl ?_
          refine j_iload_n dX11_year_28 rfl rfl ?_
          refine j_cV (as := [.int x1, .int x2]) (rest := []) dX11_year_29 rfl vw_X11_238 (hG 57 (6, 9) rfl) rfl ⟨Nat.le_of_ble_eq_true rfl, Nat.le_of_ble_eq_true rfl⟩ rfl rfl (fun _ _ => Nat.le_of_ble_eq_true rfl) (e3 c0 c1 c2 c3) (fun r μ' hr => ?_)
          obtain ⟨v, rfl, hr⟩ := hr
          refine j_forget (ls' := [.null, .null, .null]) ⟨Or.inl rfl, Or.inl rfl, Or.inl rfl, trivial⟩ ?_
          exact k3 c0 c1 c2 c3 v μ' hr
        · skip
          refine j_iconst (-1) dX11_year_21 rfl (by decide) ?_
          exact j_iret dX11_year_22 rfl (k4 c0 c1 c2 c3)
theorem b_X11_year_32 {l : Launch} {G : jG} {μ : jM} {φ : Int32 → jM → Prop} {z0 : Int32} (hG : gGG G) (hP : gPP μ) 
    (k0 : φ z0 μ) :
    J l mX11_year (jZ0 7 G (pI φ)) G 0 0 32 [.null, .null, .null] [.int z0] μ := by
  exact j_iret dX11_year_32 rfl (k0 )
theorem b_X11_sheet_0 {l : Launch} {G : jG} {μ : jM} {φ : Int32 → jM → Prop} {x1 x2 : Int32} {ψ0 : Int32 → jM → Prop} {t : Nat} (hG : gGG G) (hP : gPP μ) (ht : tO gTold pTold G μ t) (q12_0 : μ.2.2 12 0 = some t) 
    (e0 : jC0 l mX8_sheetChance 1 G [.ref t, .int x1, .int x2] μ (pI ψ0)) 
    (k0 : ∀ v μ', ψ0 v μ' → J l mX11_sheet (jZ0 2 G (pI φ)) G 0 0 12 [.null, .null, .null] [.int v] μ') :
    J l mX11_sheet (jZ0 2 G (pI φ)) G 0 0 0 [.ref 0, .int x1, .int x2] [] μ := by
  refine j_aload_n dX11_sheet_0 rfl rfl ?_
  refine j_getR (ci := 11) (N := 9) (f := 2) (T := TX11) 12 dX11_sheet_1 rfl (hG 0 (16, 9) rfl) rfl (by decide) fl_X11_26 rfl (hP 0 2 12 rfl) ?_
  refine j_getR (ci := 10) (N := 11) (f := 0) (T := TX10) t dX11_sheet_4 rfl (hG 12 (15, 11) rfl) rfl (by decide) fl_X11_97 rfl q12_0 ?_
  refine j_iload_n dX11_sheet_7 rfl rfl ?_
  refine j_iload_n dX11_sheet_8 rfl rfl ?_
  refine j_cV (as := [.int x1, .int x2]) (rest := []) dX11_sheet_9 rfl vw_X11_241 (ht.1 0 (13, 20) rfl) rfl ⟨Nat.le_of_ble_eq_true rfl, Nat.le_of_ble_eq_true rfl⟩ rfl rfl (fun _ _ => Nat.le_of_ble_eq_true rfl) (e0 ) (fun r μ' hr => ?_)
  obtain ⟨v, rfl, hr⟩ := hr
  refine j_forget (ls' := [.null, .null, .null]) ⟨Or.inl rfl, Or.inl rfl, Or.inl rfl, trivial⟩ ?_
  exact k0  v μ' hr
theorem b_X11_sheet_12 {l : Launch} {G : jG} {μ : jM} {φ : Int32 → jM → Prop} {z0 : Int32} (hG : gGG G) (hP : gPP μ) 
    (k0 : φ z0 μ) :
    J l mX11_sheet (jZ0 2 G (pI φ)) G 0 0 12 [.null, .null, .null] [.int z0] μ := by
  exact j_iret dX11_sheet_12 rfl (k0 )
theorem b_X11_tell_0 {l : Launch} {G : jG} {μ : jM} {φ : Int32 → jM → Prop} {x1 x2 x3 : Int32} {ψ0 : Int32 → jM → Prop} (hG : gGG G) (hP : gPP μ) 
    (e0 : jC0 l mX11_isRoad 0 G [.ref 0, .int x1] μ (pI ψ0)) 
    (k0 : ∀ v μ', ψ0 v μ' → J l mX11_tell (jZ0 1 G (pI φ)) G 0 0 5 [.ref 0, .int x1, .int x2, .int x3, .null] [.int v] μ') :
    J l mX11_tell (jZ0 1 G (pI φ)) G 0 0 0 [.ref 0, .int x1, .int x2, .int x3, .null] [] μ := by
  refine j_aload_n dX11_tell_0 rfl rfl ?_
  refine j_iload_n dX11_tell_1 rfl rfl ?_
  refine j_cV (as := [.int x1]) (rest := []) dX11_tell_2 rfl vw_X11_105 (hG 0 (16, 9) rfl) rfl ⟨Nat.le_of_ble_eq_true rfl, Nat.le_of_ble_eq_true rfl⟩ rfl rfl (fun _ _ => Nat.le_of_ble_eq_true rfl) (e0 ) (fun r μ' hr => ?_)
  obtain ⟨v, rfl, hr⟩ := hr
  exact k0  v μ' hr
theorem b_X11_tell_5 {l : Launch} {G : jG} {μ : jM} {φ : Int32 → jM → Prop} {x1 x2 x3 z0 : Int32} {ψ1 : Int32 → jM → Prop} {ψ4 : Int32 → jM → Prop} {ψ7 : Int32 → jM → Prop} {ψ10 : Int32 → jM → Prop} {t : Nat} (hG : gGG G) (hP : gPP μ) (ht : tO gTold pTold G μ t) (q12_0 : μ.2.2 12 0 = some t) 
    (k0 : (z0 = (0 : Int32)) → (0 = (0 : Int32)) → φ (-1) μ) 
    (e1 : (z0 = (0 : Int32)) → (¬ (0 = (0 : Int32))) → (¬ (((μ.1 t 6) >>> (x1 &&& 31)) &&& 1) = (0 : Int32)) → jC0 l mX0_add 0 G [.ref 63, .int x1, .int x2, .int x3] μ (pI ψ1)) 
    (k1 : (z0 = (0 : Int32)) → (¬ (0 = (0 : Int32))) → (¬ (((μ.1 t 6) >>> (x1 &&& 31)) &&& 1) = (0 : Int32)) → ∀ v μ', ψ1 v μ' → J l mX11_tell (jZ0 1 G (pI φ)) G 0 0 59 [.null, .null, .null, .null, .null] [.int v] μ') 
    (k2 : (z0 = (0 : Int32)) → (¬ (0 = (0 : Int32))) → ((((μ.1 t 6) >>> (x1 &&& 31)) &&& 1) = (0 : Int32)) → φ (-1) μ) 
    (k3 : (¬ (z0 = (0 : Int32))) → (x2 < (0 : Int32)) → (0 = (0 : Int32)) → φ (-1) μ) 
    (e4 : (¬ (z0 = (0 : Int32))) → (x2 < (0 : Int32)) → (¬ (0 = (0 : Int32))) → (¬ (((μ.1 t 6) >>> (x1 &&& 31)) &&& 1) = (0 : Int32)) → jC0 l mX0_add 0 G [.ref 63, .int x1, .int x2, .int x3] μ (pI ψ4)) 
    (k4 : (¬ (z0 = (0 : Int32))) → (x2 < (0 : Int32)) → (¬ (0 = (0 : Int32))) → (¬ (((μ.1 t 6) >>> (x1 &&& 31)) &&& 1) = (0 : Int32)) → ∀ v μ', ψ4 v μ' → J l mX11_tell (jZ0 1 G (pI φ)) G 0 0 59 [.null, .null, .null, .null, .null] [.int v] μ') 
    (k5 : (¬ (z0 = (0 : Int32))) → (x2 < (0 : Int32)) → (¬ (0 = (0 : Int32))) → ((((μ.1 t 6) >>> (x1 &&& 31)) &&& 1) = (0 : Int32)) → φ (-1) μ) 
    (k6 : (¬ (z0 = (0 : Int32))) → (¬ (x2 < (0 : Int32))) → (30 < (x2 : Int32)) → (0 = (0 : Int32)) → φ (-1) μ) 
    (e7 : (¬ (z0 = (0 : Int32))) → (¬ (x2 < (0 : Int32))) → (30 < (x2 : Int32)) → (¬ (0 = (0 : Int32))) → (¬ (((μ.1 t 6) >>> (x1 &&& 31)) &&& 1) = (0 : Int32)) → jC0 l mX0_add 0 G [.ref 63, .int x1, .int x2, .int x3] μ (pI ψ7)) 
    (k7 : (¬ (z0 = (0 : Int32))) → (¬ (x2 < (0 : Int32))) → (30 < (x2 : Int32)) → (¬ (0 = (0 : Int32))) → (¬ (((μ.1 t 6) >>> (x1 &&& 31)) &&& 1) = (0 : Int32)) → ∀ v μ', ψ7 v μ' → J l mX11_tell (jZ0 1 G (pI φ)) G 0 0 59 [.null, .null, .null, .null, .null] [.int v] μ') 
    (k8 : (¬ (z0 = (0 : Int32))) → (¬ (x2 < (0 : Int32))) → (30 < (x2 : Int32)) → (¬ (0 = (0 : Int32))) → ((((μ.1 t 6) >>> (x1 &&& 31)) &&& 1) = (0 : Int32)) → φ (-1) μ) 
    (k9 : (¬ (z0 = (0 : Int32))) → (¬ (x2 < (0 : Int32))) → (¬ (30 < (x2 : Int32))) → (1 = (0 : Int32)) → φ (-1) μ) 
    (e10 : (¬ (z0 = (0 : Int32))) → (¬ (x2 < (0 : Int32))) → (¬ (30 < (x2 : Int32))) → (¬ (1 = (0 : Int32))) → (¬ (((μ.1 t 6) >>> (x1 &&& 31)) &&& 1) = (0 : Int32)) → jC0 l mX0_add 0 G [.ref 63, .int x1, .int x2, .int x3] μ (pI ψ10)) 
    (k10 : (¬ (z0 = (0 : Int32))) → (¬ (x2 < (0 : Int32))) → (¬ (30 < (x2 : Int32))) → (¬ (1 = (0 : Int32))) → (¬ (((μ.1 t 6) >>> (x1 &&& 31)) &&& 1) = (0 : Int32)) → ∀ v μ', ψ10 v μ' → J l mX11_tell (jZ0 1 G (pI φ)) G 0 0 59 [.null, .null, .null, .null, .null] [.int v] μ') 
    (k11 : (¬ (z0 = (0 : Int32))) → (¬ (x2 < (0 : Int32))) → (¬ (30 < (x2 : Int32))) → (¬ (1 = (0 : Int32))) → ((((μ.1 t 6) >>> (x1 &&& 31)) &&& 1) = (0 : Int32)) → φ (-1) μ) :
    J l mX11_tell (jZ0 1 G (pI φ)) G 0 0 5 [.ref 0, .int x1, .int x2, .int x3, .null] [.int z0] μ := by
  refine j_if_eq 22 dX11_tell_5 rfl (by decide) (fun c0 => ?_) (fun c0 => ?_)
  · skip
    refine j_iconst 0 dX11_tell_22 rfl (by decide) ?_
    refine j_istore (ls' := [.ref 0, .int x1, .int x2, .int x3, .int 0]) dX11_tell_23 rfl (Nat.le_of_ble_eq_true rfl) rfl ?_
    refine j_iload dX11_tell_25 rfl rfl ?_
    refine j_if_eq 47 dX11_tell_27 rfl (by decide) (fun c1 => ?_) (fun c1 => ?_)
    · skip
      refine j_iconst (-1) dX11_tell_47 rfl (by decide) ?_
      exact j_iret dX11_tell_48 rfl (k0 c0 c1)
    · skip
      refine j_aload_n dX11_tell_30 rfl rfl ?_
      refine j_getR (ci := 11) (N := 9) (f := 2) (T := TX11) 12 dX11_tell_31 rfl (hG 0 (16, 9) rfl) rfl (by decide) fl_X11_26 rfl (hP 0 2 12 rfl) ?_
      refine j_getR (ci := 10) (N := 11) (f := 0) (T := TX10) t dX11_tell_34 rfl (hG 12 (15, 11) rfl) rfl (by decide) fl_X11_97 rfl q12_0 ?_
      refine j_getI (ci := 8) (N := 20) (f := 6) (T := TX8) dX11_tell_37 rfl (ht.1 0 (13, 20) rfl) rfl (by decide) fl_X11_119 rfl ?_
      refine j_iload_n dX11_tell_40 rfl rfl ?_
      refine j_ishr dX11_tell_41 rfl ?_
      refine j_iconst 1 dX11_tell_42 rfl (by decide) ?_
      refine j_iand dX11_tell_43 rfl ?_
      refine j_if_ne 49 dX11_tell_44 rfl (by decide) (fun c2 => ?_) (fun c2 => ?_)
      · skip
        refine j_aload_n dX11_tell_49 rfl rfl ?_
        refine j_getR (ci := 11) (N := 9) (f := 6) (T := TX11) 63 dX11_tell_50 rfl (hG 0 (16, 9) rfl) rfl (by decide) fl_X11_58 rfl (hP 0 6 63 rfl) ?_
        refine j_iload_n dX11_tell_53 rfl rfl ?_
        refine j_iload_n dX11_tell_54 rfl rfl ?_
        refine j_iload_n dX11_tell_55 rfl rfl ?_
        refine j_cV (as := [.int x1, .int x2, .int x3]) (rest := []) dX11_tell_56 rfl vw_X11_245 (hG 63 (5, 10) rfl) rfl ⟨Nat.le_of_ble_eq_true rfl, Nat.le_of_ble_eq_true rfl⟩ rfl rfl (fun _ _ => Nat.le_of_ble_eq_true rfl) (e1 c0 c1 c2) (fun r μ' hr => ?_)
        obtain ⟨v, rfl, hr⟩ := hr
        refine j_forget (ls' := [.null, .null, .null, .null, .null]) ⟨Or.inl rfl, Or.inl rfl, Or.inl rfl, Or.inl rfl, Or.inl rfl, trivial⟩ ?_
        exact k1 c0 c1 c2 v μ' hr
      · skip
        refine j_iconst (-1) dX11_tell_47 rfl (by decide) ?_
        exact j_iret dX11_tell_48 rfl (k2 c0 c1 c2)
  · skip
    refine j_iload_n dX11_tell_8 rfl rfl ?_
    refine j_if_lt 22 dX11_tell_9 rfl (by decide) (fun c3 => ?_) (fun c3 => ?_)
    · skip
      refine j_iconst 0 dX11_tell_22 rfl (by decide) ?_
      refine j_istore (ls' := [.ref 0, .int x1, .int x2, .int x3, .int 0]) dX11_tell_23 rfl (Nat.le_of_ble_eq_true rfl) rfl ?_
      refine j_iload dX11_tell_25 rfl rfl ?_
      refine j_if_eq 47 dX11_tell_27 rfl (by decide) (fun c4 => ?_) (fun c4 => ?_)
      · skip
        refine j_iconst (-1) dX11_tell_47 rfl (by decide) ?_
        exact j_iret dX11_tell_48 rfl (k3 c0 c3 c4)
      · skip
        refine j_aload_n dX11_tell_30 rfl rfl ?_
        refine j_getR (ci := 11) (N := 9) (f := 2) (T := TX11) 12 dX11_tell_31 rfl (hG 0 (16, 9) rfl) rfl (by decide) fl_X11_26 rfl (hP 0 2 12 rfl) ?_
        refine j_getR (ci := 10) (N := 11) (f := 0) (T := TX10) t dX11_tell_34 rfl (hG 12 (15, 11) rfl) rfl (by decide) fl_X11_97 rfl q12_0 ?_
        refine j_getI (ci := 8) (N := 20) (f := 6) (T := TX8) dX11_tell_37 rfl (ht.1 0 (13, 20) rfl) rfl (by decide) fl_X11_119 rfl ?_
        refine j_iload_n dX11_tell_40 rfl rfl ?_
        refine j_ishr dX11_tell_41 rfl ?_
        refine j_iconst 1 dX11_tell_42 rfl (by decide) ?_
        refine j_iand dX11_tell_43 rfl ?_
        refine j_if_ne 49 dX11_tell_44 rfl (by decide) (fun c5 => ?_) (fun c5 => ?_)
        · skip
          refine j_aload_n dX11_tell_49 rfl rfl ?_
          refine j_getR (ci := 11) (N := 9) (f := 6) (T := TX11) 63 dX11_tell_50 rfl (hG 0 (16, 9) rfl) rfl (by decide) fl_X11_58 rfl (hP 0 6 63 rfl) ?_
          refine j_iload_n dX11_tell_53 rfl rfl ?_
          refine j_iload_n dX11_tell_54 rfl rfl ?_
          refine j_iload_n dX11_tell_55 rfl rfl ?_
          refine j_cV (as := [.int x1, .int x2, .int x3]) (rest := []) dX11_tell_56 rfl vw_X11_245 (hG 63 (5, 10) rfl) rfl ⟨Nat.le_of_ble_eq_true rfl, Nat.le_of_ble_eq_true rfl⟩ rfl rfl (fun _ _ => Nat.le_of_ble_eq_true rfl) (e4 c0 c3 c4 c5) (fun r μ' hr => ?_)
          obtain ⟨v, rfl, hr⟩ := hr
          refine j_forget (ls' := [.null, .null, .null, .null, .null]) ⟨Or.inl rfl, Or.inl rfl, Or.inl rfl, Or.inl rfl, Or.inl rfl, trivial⟩ ?_
          exact k4 c0 c3 c4 c5 v μ' hr
        · skip
          refine j_iconst (-1) dX11_tell_47 rfl (by decide) ?_
          exact j_iret dX11_tell_48 rfl (k5 c0 c3 c4 c5)
    · skip
      refine j_iload_n dX11_tell_12 rfl rfl ?_
      refine j_bipush 30 dX11_tell_13 rfl (by decide) ?_
      refine j_icmp_gt 22 dX11_tell_15 rfl (by decide) (fun c6 => ?_) (fun c6 => ?_)
      · skip
        refine j_iconst 0 dX11_tell_22 rfl (by decide) ?_
        refine j_istore (ls' := [.ref 0, .int x1, .int x2, .int x3, .int 0]) dX11_tell_23 rfl (Nat.le_of_ble_eq_true rfl) rfl ?_
        refine j_iload dX11_tell_25 rfl rfl ?_
        refine j_if_eq 47 dX11_tell_27 rfl (by decide) (fun c7 => ?_) (fun c7 => ?_)
        · skip
          refine j_iconst (-1) dX11_tell_47 rfl (by decide) ?_
          exact j_iret dX11_tell_48 rfl (k6 c0 c3 c6 c7)
        · skip
          refine j_aload_n dX11_tell_30 rfl rfl ?_
          refine j_getR (ci := 11) (N := 9) (f := 2) (T := TX11) 12 dX11_tell_31 rfl (hG 0 (16, 9) rfl) rfl (by decide) fl_X11_26 rfl (hP 0 2 12 rfl) ?_
          refine j_getR (ci := 10) (N := 11) (f := 0) (T := TX10) t dX11_tell_34 rfl (hG 12 (15, 11) rfl) rfl (by decide) fl_X11_97 rfl q12_0 ?_
          refine j_getI (ci := 8) (N := 20) (f := 6) (T := TX8) dX11_tell_37 rfl (ht.1 0 (13, 20) rfl) rfl (by decide) fl_X11_119 rfl ?_
          refine j_iload_n dX11_tell_40 rfl rfl ?_
          refine j_ishr dX11_tell_41 rfl ?_
          refine j_iconst 1 dX11_tell_42 rfl (by decide) ?_
          refine j_iand dX11_tell_43 rfl ?_
          refine j_if_ne 49 dX11_tell_44 rfl (by decide) (fun c8 => ?_) (fun c8 => ?_)
          · skip
            refine j_aload_n dX11_tell_49 rfl rfl ?_
            refine j_getR (ci := 11) (N := 9) (f := 6) (T := TX11) 63 dX11_tell_50 rfl (hG 0 (16, 9) rfl) rfl (by decide) fl_X11_58 rfl (hP 0 6 63 rfl) ?_
            refine j_iload_n dX11_tell_53 rfl rfl ?_
            refine j_iload_n dX11_tell_54 rfl rfl ?_
            refine j_iload_n dX11_tell_55 rfl rfl ?_
            refine j_cV (as := [.int x1, .int x2, .int x3]) (rest := []) dX11_tell_56 rfl vw_X11_245 (hG 63 (5, 10) rfl) rfl ⟨Nat.le_of_ble_eq_true rfl, Nat.le_of_ble_eq_true rfl⟩ rfl rfl (fun _ _ => Nat.le_of_ble_eq_true rfl) (e7 c0 c3 c6 c7 c8) (fun r μ' hr => ?_)
            obtain ⟨v, rfl, hr⟩ := hr
            refine j_forget (ls' := [.null, .null, .null, .null, .null]) ⟨Or.inl rfl, Or.inl rfl, Or.inl rfl, Or.inl rfl, Or.inl rfl, trivial⟩ ?_
            exact k7 c0 c3 c6 c7 c8 v μ' hr
          · skip
            refine j_iconst (-1) dX11_tell_47 rfl (by decide) ?_
            exact j_iret dX11_tell_48 rfl (k8 c0 c3 c6 c7 c8)
      · skip
        refine j_iconst 1 dX11_tell_18 rfl (by decide) ?_
        refine j_goto 23 dX11_tell_19 (by decide) ?_
        refine j_istore (ls' := [.ref 0, .int x1, .int x2, .int x3, .int 1]) dX11_tell_23 rfl (Nat.le_of_ble_eq_true rfl) rfl ?_
        refine j_iload dX11_tell_25 rfl rfl ?_
        refine j_if_eq 47 dX11_tell_27 rfl (by decide) (fun c9 => ?_) (fun c9 => ?_)
        · skip
          refine j_iconst (-1) dX11_tell_47 rfl (by decide) ?_
          exact j_iret dX11_tell_48 rfl (k9 c0 c3 c6 c9)
        · skip
          refine j_aload_n dX11_tell_30 rfl rfl ?_
          refine j_getR (ci := 11) (N := 9) (f := 2) (T := TX11) 12 dX11_tell_31 rfl (hG 0 (16, 9) rfl) rfl (by decide) fl_X11_26 rfl (hP 0 2 12 rfl) ?_
          refine j_getR (ci := 10) (N := 11) (f := 0) (T := TX10) t dX11_tell_34 rfl (hG 12 (15, 11) rfl) rfl (by decide) fl_X11_97 rfl q12_0 ?_
          refine j_getI (ci := 8) (N := 20) (f := 6) (T := TX8) dX11_tell_37 rfl (ht.1 0 (13, 20) rfl) rfl (by decide) fl_X11_119 rfl ?_
          refine j_iload_n dX11_tell_40 rfl rfl ?_
          refine j_ishr dX11_tell_41 rfl ?_
          refine j_iconst 1 dX11_tell_42 rfl (by decide) ?_
          refine j_iand dX11_tell_43 rfl ?_
          refine j_if_ne 49 dX11_tell_44 rfl (by decide) (fun c10 => ?_) (fun c10 => ?_)
          · skip
            refine j_aload_n dX11_tell_49 rfl rfl ?_
            refine j_getR (ci := 11) (N := 9) (f := 6) (T := TX11) 63 dX11_tell_50 rfl (hG 0 (16, 9) rfl) rfl (by decide) fl_X11_58 rfl (hP 0 6 63 rfl) ?_
            refine j_iload_n dX11_tell_53 rfl rfl ?_
            refine j_iload_n dX11_tell_54 rfl rfl ?_
            refine j_iload_n dX11_tell_55 rfl rfl ?_
            refine j_cV (as := [.int x1, .int x2, .int x3]) (rest := []) dX11_tell_56 rfl vw_X11_245 (hG 63 (5, 10) rfl) rfl ⟨Nat.le_of_ble_eq_true rfl, Nat.le_of_ble_eq_true rfl⟩ rfl rfl (fun _ _ => Nat.le_of_ble_eq_true rfl) (e10 c0 c3 c6 c9 c10) (fun r μ' hr => ?_)
            obtain ⟨v, rfl, hr⟩ := hr
            refine j_forget (ls' := [.null, .null, .null, .null, .null]) ⟨Or.inl rfl, Or.inl rfl, Or.inl rfl, Or.inl rfl, Or.inl rfl, trivial⟩ ?_
            exact k10 c0 c3 c6 c9 c10 v μ' hr
          · skip
            refine j_iconst (-1) dX11_tell_47 rfl (by decide) ?_
            exact j_iret dX11_tell_48 rfl (k11 c0 c3 c6 c9 c10)
theorem b_X11_tell_59 {l : Launch} {G : jG} {μ : jM} {φ : Int32 → jM → Prop} {z0 : Int32} (hG : gGG G) (hP : gPP μ) 
    (k0 : φ z0 μ) :
    J l mX11_tell (jZ0 1 G (pI φ)) G 0 0 59 [.null, .null, .null, .null, .null] [.int z0] μ := by
  exact j_iret dX11_tell_59 rfl (k0 )
theorem b_X11_forget_0 {l : Launch} {G : jG} {μ : jM} {φ : Int32 → jM → Prop} (hG : gGG G) (hP : gPP μ) 
    (k0 : φ (μ.1 63 0) (wI μ 63 0 0)) :
    J l mX11_forget (jZ0 0 G (pI φ)) G 0 0 0 [.ref 0, .null] [] μ := by
  refine j_aload_n dX11_forget_0 rfl rfl ?_
  refine j_getR (ci := 11) (N := 9) (f := 6) (T := TX11) 63 dX11_forget_1 rfl (hG 0 (16, 9) rfl) rfl (by decide) fl_X11_58 rfl (hP 0 6 63 rfl) ?_
  refine j_getI (ci := 0) (N := 10) (f := 0) (T := TX0) dX11_forget_4 rfl (hG 63 (5, 10) rfl) rfl (by decide) fl_X11_248 rfl ?_
  refine j_istore_n (ls' := [.ref 0, .int (μ.1 63 0)]) dX11_forget_7 rfl rfl (Nat.le_of_ble_eq_true rfl) rfl ?_
  refine j_aload_n dX11_forget_8 rfl rfl ?_
  refine j_getR (ci := 11) (N := 9) (f := 6) (T := TX11) 63 dX11_forget_9 rfl (hG 0 (16, 9) rfl) rfl (by decide) fl_X11_58 rfl (hP 0 6 63 rfl) ?_
  refine j_iconst 0 dX11_forget_12 rfl (by decide) ?_
  refine j_putI (ci := 0) (N := 10) (f := 0) (T := TX0) dX11_forget_13 rfl (hG 63 (5, 10) rfl) rfl (by decide) fl_X11_248 rfl rfl ?_
  refine j_iload_n dX11_forget_16 rfl rfl ?_
  exact j_iret dX11_forget_17 rfl (k0 )
theorem b_X11_hold_0 {l : Launch} {G : jG} {μ : jM} {φ : Int32 → jM → Prop} {x1 : Int32} {ψ0 : Int32 → jM → Prop} (hG : gGG G) (hP : gPP μ) 
    (e0 : jC0 l mX3_fillSlot 1 G [.ref 54, .int x1, .ref 52] μ (pI ψ0)) 
    (k0 : ∀ v μ', ψ0 v μ' → J l mX11_hold (jZ0 2 G (pI φ)) G 0 0 12 [.null, .null] [.int v] μ') :
    J l mX11_hold (jZ0 2 G (pI φ)) G 0 0 0 [.ref 0, .int x1] [] μ := by
  refine j_aload_n dX11_hold_0 rfl rfl ?_
  refine j_getR (ci := 11) (N := 9) (f := 4) (T := TX11) 54 dX11_hold_1 rfl (hG 0 (16, 9) rfl) rfl (by decide) fl_X11_40 rfl (hP 0 4 54 rfl) ?_
  refine j_iload_n dX11_hold_4 rfl rfl ?_
  refine j_aload_n dX11_hold_5 rfl rfl ?_
  refine j_getR (ci := 11) (N := 9) (f := 3) (T := TX11) 52 dX11_hold_6 rfl (hG 0 (16, 9) rfl) rfl (by decide) fl_X11_33 rfl (hP 0 3 52 rfl) ?_
  refine j_cV (as := [.int x1, .ref 52]) (rest := []) dX11_hold_9 rfl vw_X11_260 (hG 54 (8, 5) rfl) rfl ⟨Nat.le_of_ble_eq_true rfl, Nat.le_of_ble_eq_true rfl⟩ rfl rfl (fun _ _ => Nat.le_of_ble_eq_true rfl) (e0 ) (fun r μ' hr => ?_)
  obtain ⟨v, rfl, hr⟩ := hr
  refine j_forget (ls' := [.null, .null]) ⟨Or.inl rfl, Or.inl rfl, trivial⟩ ?_
  exact k0  v μ' hr
theorem b_X11_hold_12 {l : Launch} {G : jG} {μ : jM} {φ : Int32 → jM → Prop} {z0 : Int32} (hG : gGG G) (hP : gPP μ) 
    (k0 : φ z0 μ) 
    (o0 : z0 = (0 : Int32) ∨ z0 = (1 : Int32)) :
    J l mX11_hold (jZ0 2 G (pI φ)) G 0 0 12 [.null, .null] [.int z0] μ := by
  exact j_zret dX11_hold_12 rfl o0 (k0 )
theorem b_X11_restore_0 {l : Launch} {G : jG} {μ : jM} {φ : Int32 → jM → Prop} {x1 : Int32} {ψ0 : jM → Prop} (hG : gGG G) (hP : gPP μ) 
    (e0 : jC0 l mX1_outdate 0 G [.ref 57] μ (pV ψ0)) 
    (k0 : ∀ μ', ψ0 μ' → J l mX11_restore (jZ0 2 G (pI φ)) G 0 0 7 [.ref 0, .int x1] [] μ') :
    J l mX11_restore (jZ0 2 G (pI φ)) G 0 0 0 [.ref 0, .int x1] [] μ := by
  refine j_aload_n dX11_restore_0 rfl rfl ?_
  refine j_getR (ci := 11) (N := 9) (f := 5) (T := TX11) 57 dX11_restore_1 rfl (hG 0 (16, 9) rfl) rfl (by decide) fl_X11_49 rfl (hP 0 5 57 rfl) ?_
  refine j_cV (as := []) (rest := []) dX11_restore_4 rfl vw_X11_102 (hG 57 (6, 9) rfl) rfl ⟨Nat.le_of_ble_eq_true rfl, Nat.le_of_ble_eq_true rfl⟩ rfl rfl (fun _ _ => Nat.le_of_ble_eq_true rfl) (e0 ) (fun r μ' hr => ?_)
  obtain ⟨rfl, hr⟩ := hr
  exact k0  μ' hr
theorem b_X11_restore_7 {l : Launch} {G : jG} {μ : jM} {φ : Int32 → jM → Prop} {x1 : Int32} {ψ0 : Int32 → jM → Prop} (hG : gGG G) (hP : gPP μ) 
    (e0 : jC0 l mX3_useSlot 1 G [.ref 54, .int x1, .ref 52] μ (pI ψ0)) 
    (k0 : ∀ v μ', ψ0 v μ' → J l mX11_restore (jZ0 2 G (pI φ)) G 0 0 19 [.null, .null] [.int v] μ') :
    J l mX11_restore (jZ0 2 G (pI φ)) G 0 0 7 [.ref 0, .int x1] [] μ := by
  refine j_aload_n dX11_restore_7 rfl rfl ?_
  refine j_getR (ci := 11) (N := 9) (f := 4) (T := TX11) 54 dX11_restore_8 rfl (hG 0 (16, 9) rfl) rfl (by decide) fl_X11_40 rfl (hP 0 4 54 rfl) ?_
  refine j_iload_n dX11_restore_11 rfl rfl ?_
  refine j_aload_n dX11_restore_12 rfl rfl ?_
  refine j_getR (ci := 11) (N := 9) (f := 3) (T := TX11) 52 dX11_restore_13 rfl (hG 0 (16, 9) rfl) rfl (by decide) fl_X11_33 rfl (hP 0 3 52 rfl) ?_
  refine j_cV (as := [.int x1, .ref 52]) (rest := []) dX11_restore_16 rfl vw_X11_264 (hG 54 (8, 5) rfl) rfl ⟨Nat.le_of_ble_eq_true rfl, Nat.le_of_ble_eq_true rfl⟩ rfl rfl (fun _ _ => Nat.le_of_ble_eq_true rfl) (e0 ) (fun r μ' hr => ?_)
  obtain ⟨v, rfl, hr⟩ := hr
  refine j_forget (ls' := [.null, .null]) ⟨Or.inl rfl, Or.inl rfl, trivial⟩ ?_
  exact k0  v μ' hr
theorem b_X11_restore_19 {l : Launch} {G : jG} {μ : jM} {φ : Int32 → jM → Prop} {z0 : Int32} (hG : gGG G) (hP : gPP μ) 
    (k0 : φ z0 μ) 
    (o0 : z0 = (0 : Int32) ∨ z0 = (1 : Int32)) :
    J l mX11_restore (jZ0 2 G (pI φ)) G 0 0 19 [.null, .null] [.int z0] μ := by
  exact j_zret dX11_restore_19 rfl o0 (k0 )
theorem b_X11_count_0 {l : Launch} {G : jG} {μ : jM} {φ : Int32 → jM → Prop} {x1 : Int32} {ψ7 : jM → Prop} {ψ11 : Int32 → jM → Prop} {ψ12 : jM → Prop} {t : Nat} (hG : gGG G) (hP : gPP μ) (ht : tO gTold pTold G μ t) (q12_0 : μ.2.2 12 0 = some t) 
    (k0 : (x1 = (0 : Int32)) → φ (μ.1 t 0) μ) 
    (k1 : (¬ x1 = (0 : Int32)) → (x1 = (1 : Int32)) → φ (μ.1 t 1) μ) 
    (k2 : (¬ x1 = (0 : Int32)) → (¬ x1 = (1 : Int32)) → (x1 = (2 : Int32)) → φ (μ.1 t 2) μ) 
    (k3 : (¬ x1 = (0 : Int32)) → (¬ x1 = (1 : Int32)) → (¬ x1 = (2 : Int32)) → (x1 = (3 : Int32)) → φ (μ.1 53 0) μ) 
    (k4 : (¬ x1 = (0 : Int32)) → (¬ x1 = (1 : Int32)) → (¬ x1 = (2 : Int32)) → (¬ x1 = (3 : Int32)) → (x1 = (4 : Int32)) → φ (μ.1 53 1) μ) 
    (k5 : (¬ x1 = (0 : Int32)) → (¬ x1 = (1 : Int32)) → (¬ x1 = (2 : Int32)) → (¬ x1 = (3 : Int32)) → (¬ x1 = (4 : Int32)) → (x1 = (5 : Int32)) → φ (μ.1 53 3) μ) 
    (k6 : (¬ x1 = (0 : Int32)) → (¬ x1 = (1 : Int32)) → (¬ x1 = (2 : Int32)) → (¬ x1 = (3 : Int32)) → (¬ x1 = (4 : Int32)) → (¬ x1 = (5 : Int32)) → (x1 = (6 : Int32)) → φ (μ.1 53 4) μ) 
    (e7 : (¬ x1 = (0 : Int32)) → (¬ x1 = (1 : Int32)) → (¬ x1 = (2 : Int32)) → (¬ x1 = (3 : Int32)) → (¬ x1 = (4 : Int32)) → (¬ x1 = (5 : Int32)) → (¬ x1 = (6 : Int32)) → (x1 = (7 : Int32)) → jC0 l mX10_enter 3 G [.ref 12, .ref 52] μ (pV ψ7)) 
    (k7 : (¬ x1 = (0 : Int32)) → (¬ x1 = (1 : Int32)) → (¬ x1 = (2 : Int32)) → (¬ x1 = (3 : Int32)) → (¬ x1 = (4 : Int32)) → (¬ x1 = (5 : Int32)) → (¬ x1 = (6 : Int32)) → (x1 = (7 : Int32)) → ∀ μ', ψ7 μ' → J l mX11_count (jZ0 4 G (pI φ)) G 0 0 142 [.ref 0, .null, .null] [] μ') 
    (k8 : (¬ x1 = (0 : Int32)) → (¬ x1 = (1 : Int32)) → (¬ x1 = (2 : Int32)) → (¬ x1 = (3 : Int32)) → (¬ x1 = (4 : Int32)) → (¬ x1 = (5 : Int32)) → (¬ x1 = (6 : Int32)) → (¬ x1 = (7 : Int32)) → (x1 = (8 : Int32)) → φ (μ.1 1 1) μ) 
    (k9 : (¬ x1 = (0 : Int32)) → (¬ x1 = (1 : Int32)) → (¬ x1 = (2 : Int32)) → (¬ x1 = (3 : Int32)) → (¬ x1 = (4 : Int32)) → (¬ x1 = (5 : Int32)) → (¬ x1 = (6 : Int32)) → (¬ x1 = (7 : Int32)) → (¬ x1 = (8 : Int32)) → (x1 = (9 : Int32)) → φ (μ.1 54 0) μ) 
    (k10 : (¬ x1 = (0 : Int32)) → (¬ x1 = (1 : Int32)) → (¬ x1 = (2 : Int32)) → (¬ x1 = (3 : Int32)) → (¬ x1 = (4 : Int32)) → (¬ x1 = (5 : Int32)) → (¬ x1 = (6 : Int32)) → (¬ x1 = (7 : Int32)) → (¬ x1 = (8 : Int32)) → (¬ x1 = (9 : Int32)) → (x1 = (10 : Int32)) → φ (μ.1 63 0) μ) 
    (e11 : (¬ x1 = (0 : Int32)) → (¬ x1 = (1 : Int32)) → (¬ x1 = (2 : Int32)) → (¬ x1 = (3 : Int32)) → (¬ x1 = (4 : Int32)) → (¬ x1 = (5 : Int32)) → (¬ x1 = (6 : Int32)) → (¬ x1 = (7 : Int32)) → (¬ x1 = (8 : Int32)) → (¬ x1 = (9 : Int32)) → (¬ x1 = (10 : Int32)) → (x1 = (11 : Int32)) → jC0 l mJI_bitCount 0 G [.int (μ.1 54 1)] μ (pI ψ11)) 
    (k11 : (¬ x1 = (0 : Int32)) → (¬ x1 = (1 : Int32)) → (¬ x1 = (2 : Int32)) → (¬ x1 = (3 : Int32)) → (¬ x1 = (4 : Int32)) → (¬ x1 = (5 : Int32)) → (¬ x1 = (6 : Int32)) → (¬ x1 = (7 : Int32)) → (¬ x1 = (8 : Int32)) → (¬ x1 = (9 : Int32)) → (¬ x1 = (10 : Int32)) → (x1 = (11 : Int32)) → ∀ v μ', ψ11 v μ' → J l mX11_count (jZ0 4 G (pI φ)) G 0 0 184 [.null, .null, .null] [.int v] μ') 
    (e12 : (¬ x1 = (0 : Int32)) → (¬ x1 = (1 : Int32)) → (¬ x1 = (2 : Int32)) → (¬ x1 = (3 : Int32)) → (¬ x1 = (4 : Int32)) → (¬ x1 = (5 : Int32)) → (¬ x1 = (6 : Int32)) → (¬ x1 = (7 : Int32)) → (¬ x1 = (8 : Int32)) → (¬ x1 = (9 : Int32)) → (¬ x1 = (10 : Int32)) → (¬ x1 = (11 : Int32)) → (x1 = (12 : Int32)) → jC0 l mX10_enter 3 G [.ref 12, .ref 52] μ (pV ψ12)) 
    (k12 : (¬ x1 = (0 : Int32)) → (¬ x1 = (1 : Int32)) → (¬ x1 = (2 : Int32)) → (¬ x1 = (3 : Int32)) → (¬ x1 = (4 : Int32)) → (¬ x1 = (5 : Int32)) → (¬ x1 = (6 : Int32)) → (¬ x1 = (7 : Int32)) → (¬ x1 = (8 : Int32)) → (¬ x1 = (9 : Int32)) → (¬ x1 = (10 : Int32)) → (¬ x1 = (11 : Int32)) → (x1 = (12 : Int32)) → ∀ μ', ψ12 μ' → J l mX11_count (jZ0 4 G (pI φ)) G 0 0 196 [.ref 0, .null, .null] [] μ') 
    (k13 : (¬ x1 = (0 : Int32)) → (¬ x1 = (1 : Int32)) → (¬ x1 = (2 : Int32)) → (¬ x1 = (3 : Int32)) → (¬ x1 = (4 : Int32)) → (¬ x1 = (5 : Int32)) → (¬ x1 = (6 : Int32)) → (¬ x1 = (7 : Int32)) → (¬ x1 = (8 : Int32)) → (¬ x1 = (9 : Int32)) → (¬ x1 = (10 : Int32)) → (¬ x1 = (11 : Int32)) → (¬ x1 = (12 : Int32)) → φ (-1) μ) :
    J l mX11_count (jZ0 4 G (pI φ)) G 0 0 0 [.ref 0, .int x1, .null] [] μ := by
  refine j_aload_n dX11_count_0 rfl rfl ?_
  refine j_getR (ci := 11) (N := 9) (f := 2) (T := TX11) 12 dX11_count_1 rfl (hG 0 (16, 9) rfl) rfl (by decide) fl_X11_26 rfl (hP 0 2 12 rfl) ?_
  refine j_getR (ci := 10) (N := 11) (f := 0) (T := TX10) t dX11_count_4 rfl (hG 12 (15, 11) rfl) rfl (by decide) fl_X11_97 rfl q12_0 ?_
  refine j_astore_n (ls' := [.ref 0, .int x1, .ref t]) dX11_count_7 rfl rfl (Nat.le_of_ble_eq_true rfl) rfl ?_
  refine j_iload_n dX11_count_8 rfl rfl ?_
  by_cases c0 : x1 = (0 : Int32)
  · skip
    refine j_tableIn (off := 67) 76 dX11_count_9 (sw_1 c0 (by decide)) (sw_2 c0 (by decide)) (sw_3 c0 (by decide)) (by decide) ?_
    refine j_aload_n dX11_count_76 rfl rfl ?_
    refine j_getI (ci := 8) (N := 20) (f := 0) (T := TX8) dX11_count_77 rfl (ht.1 0 (13, 20) rfl) rfl (by decide) fl_X11_267 rfl ?_
    exact j_iret dX11_count_80 rfl (k0 c0)
  by_cases c1 : x1 = (1 : Int32)
  · skip
    refine j_tableIn (off := 72) 81 dX11_count_9 (sw_1 c1 (by decide)) (sw_2 c1 (by decide)) (sw_3 c1 (by decide)) (by decide) ?_
    refine j_aload_n dX11_count_81 rfl rfl ?_
    refine j_getI (ci := 8) (N := 20) (f := 1) (T := TX8) dX11_count_82 rfl (ht.1 0 (13, 20) rfl) rfl (by decide) fl_X11_195 rfl ?_
    exact j_iret dX11_count_85 rfl (k1 c0 c1)
  by_cases c2 : x1 = (2 : Int32)
  · skip
    refine j_tableIn (off := 77) 86 dX11_count_9 (sw_1 c2 (by decide)) (sw_2 c2 (by decide)) (sw_3 c2 (by decide)) (by decide) ?_
    refine j_aload_n dX11_count_86 rfl rfl ?_
    refine j_getI (ci := 8) (N := 20) (f := 2) (T := TX8) dX11_count_87 rfl (ht.1 0 (13, 20) rfl) rfl (by decide) fl_X11_270 rfl ?_
    exact j_iret dX11_count_90 rfl (k2 c0 c1 c2)
  by_cases c3 : x1 = (3 : Int32)
  · skip
    refine j_tableIn (off := 82) 91 dX11_count_9 (sw_1 c3 (by decide)) (sw_2 c3 (by decide)) (sw_3 c3 (by decide)) (by decide) ?_
    refine j_aload_n dX11_count_91 rfl rfl ?_
    refine j_getR (ci := 11) (N := 9) (f := 3) (T := TX11) 52 dX11_count_92 rfl (hG 0 (16, 9) rfl) rfl (by decide) fl_X11_33 rfl (hP 0 3 52 rfl) ?_
    refine j_getR (ci := 5) (N := 1) (f := 0) (T := TX5) 53 dX11_count_95 rfl (hG 52 (10, 1) rfl) rfl (by decide) fl_X11_122 rfl (hP 52 0 53 rfl) ?_
    refine j_iconst 0 dX11_count_98 rfl (by decide) ?_
    refine j_iald' (j := 0) dX11_count_99 rfl (hG 53 (0, 71) rfl) (vpK (by decide)) (by decide) ?_
    exact j_iret dX11_count_100 rfl (k3 c0 c1 c2 c3)
  by_cases c4 : x1 = (4 : Int32)
  · skip
    refine j_tableIn (off := 92) 101 dX11_count_9 (sw_1 c4 (by decide)) (sw_2 c4 (by decide)) (sw_3 c4 (by decide)) (by decide) ?_
    refine j_aload_n dX11_count_101 rfl rfl ?_
    refine j_getR (ci := 11) (N := 9) (f := 3) (T := TX11) 52 dX11_count_102 rfl (hG 0 (16, 9) rfl) rfl (by decide) fl_X11_33 rfl (hP 0 3 52 rfl) ?_
    refine j_getR (ci := 5) (N := 1) (f := 0) (T := TX5) 53 dX11_count_105 rfl (hG 52 (10, 1) rfl) rfl (by decide) fl_X11_122 rfl (hP 52 0 53 rfl) ?_
    refine j_iconst 1 dX11_count_108 rfl (by decide) ?_
    refine j_iald' (j := 1) dX11_count_109 rfl (hG 53 (0, 71) rfl) (vpK (by decide)) (by decide) ?_
    exact j_iret dX11_count_110 rfl (k4 c0 c1 c2 c3 c4)
  by_cases c5 : x1 = (5 : Int32)
  · skip
    refine j_tableIn (off := 102) 111 dX11_count_9 (sw_1 c5 (by decide)) (sw_2 c5 (by decide)) (sw_3 c5 (by decide)) (by decide) ?_
    refine j_aload_n dX11_count_111 rfl rfl ?_
    refine j_getR (ci := 11) (N := 9) (f := 3) (T := TX11) 52 dX11_count_112 rfl (hG 0 (16, 9) rfl) rfl (by decide) fl_X11_33 rfl (hP 0 3 52 rfl) ?_
    refine j_getR (ci := 5) (N := 1) (f := 0) (T := TX5) 53 dX11_count_115 rfl (hG 52 (10, 1) rfl) rfl (by decide) fl_X11_122 rfl (hP 52 0 53 rfl) ?_
    refine j_iconst 3 dX11_count_118 rfl (by decide) ?_
    refine j_iald' (j := 3) dX11_count_119 rfl (hG 53 (0, 71) rfl) (vpK (by decide)) (by decide) ?_
    exact j_iret dX11_count_120 rfl (k5 c0 c1 c2 c3 c4 c5)
  by_cases c6 : x1 = (6 : Int32)
  · skip
    refine j_tableIn (off := 112) 121 dX11_count_9 (sw_1 c6 (by decide)) (sw_2 c6 (by decide)) (sw_3 c6 (by decide)) (by decide) ?_
    refine j_aload_n dX11_count_121 rfl rfl ?_
    refine j_getR (ci := 11) (N := 9) (f := 3) (T := TX11) 52 dX11_count_122 rfl (hG 0 (16, 9) rfl) rfl (by decide) fl_X11_33 rfl (hP 0 3 52 rfl) ?_
    refine j_getR (ci := 5) (N := 1) (f := 0) (T := TX5) 53 dX11_count_125 rfl (hG 52 (10, 1) rfl) rfl (by decide) fl_X11_122 rfl (hP 52 0 53 rfl) ?_
    refine j_iconst 4 dX11_count_128 rfl (by decide) ?_
    refine j_iald' (j := 4) dX11_count_129 rfl (hG 53 (0, 71) rfl) (vpK (by decide)) (by decide) ?_
    exact j_iret dX11_count_130 rfl (k6 c0 c1 c2 c3 c4 c5 c6)
  by_cases c7 : x1 = (7 : Int32)
  · skip
    refine j_tableIn (off := 122) 131 dX11_count_9 (sw_1 c7 (by decide)) (sw_2 c7 (by decide)) (sw_3 c7 (by decide)) (by decide) ?_
    refine j_aload_n dX11_count_131 rfl rfl ?_
    refine j_getR (ci := 11) (N := 9) (f := 2) (T := TX11) 12 dX11_count_132 rfl (hG 0 (16, 9) rfl) rfl (by decide) fl_X11_26 rfl (hP 0 2 12 rfl) ?_
    refine j_aload_n dX11_count_135 rfl rfl ?_
    refine j_getR (ci := 11) (N := 9) (f := 3) (T := TX11) 52 dX11_count_136 rfl (hG 0 (16, 9) rfl) rfl (by decide) fl_X11_33 rfl (hP 0 3 52 rfl) ?_
    refine j_cV (as := [.ref 52]) (rest := []) dX11_count_139 rfl vw_X11_81 (hG 12 (15, 11) rfl) rfl ⟨Nat.le_of_ble_eq_true rfl, Nat.le_of_ble_eq_true rfl⟩ rfl rfl (fun _ _ => Nat.le_of_ble_eq_true rfl) (e7 c0 c1 c2 c3 c4 c5 c6 c7) (fun r μ' hr => ?_)
    obtain ⟨rfl, hr⟩ := hr
    refine j_forget (ls' := [.ref 0, .null, .null]) ⟨Or.inr rfl, Or.inl rfl, Or.inl rfl, trivial⟩ ?_
    exact k7 c0 c1 c2 c3 c4 c5 c6 c7 μ' hr
  by_cases c8 : x1 = (8 : Int32)
  · skip
    refine j_tableIn (off := 141) 150 dX11_count_9 (sw_1 c8 (by decide)) (sw_2 c8 (by decide)) (sw_3 c8 (by decide)) (by decide) ?_
    refine j_aload_n dX11_count_150 rfl rfl ?_
    refine j_getR (ci := 11) (N := 9) (f := 0) (T := TX11) 1 dX11_count_151 rfl (hG 0 (16, 9) rfl) rfl (by decide) fl_X11_10 rfl (hP 0 0 1 rfl) ?_
    refine j_getI (ci := 6) (N := 2) (f := 1) (T := TX6) dX11_count_154 rfl (hG 1 (11, 2) rfl) rfl (by decide) fl_X11_85 rfl ?_
    exact j_iret dX11_count_157 rfl (k8 c0 c1 c2 c3 c4 c5 c6 c7 c8)
  by_cases c9 : x1 = (9 : Int32)
  · skip
    refine j_tableIn (off := 149) 158 dX11_count_9 (sw_1 c9 (by decide)) (sw_2 c9 (by decide)) (sw_3 c9 (by decide)) (by decide) ?_
    refine j_aload_n dX11_count_158 rfl rfl ?_
    refine j_getR (ci := 11) (N := 9) (f := 4) (T := TX11) 54 dX11_count_159 rfl (hG 0 (16, 9) rfl) rfl (by decide) fl_X11_40 rfl (hP 0 4 54 rfl) ?_
    refine j_getI (ci := 3) (N := 5) (f := 0) (T := TX3) dX11_count_162 rfl (hG 54 (8, 5) rfl) rfl (by decide) fl_X11_276 rfl ?_
    exact j_iret dX11_count_165 rfl (k9 c0 c1 c2 c3 c4 c5 c6 c7 c8 c9)
  by_cases c10 : x1 = (10 : Int32)
  · skip
    refine j_tableIn (off := 157) 166 dX11_count_9 (sw_1 c10 (by decide)) (sw_2 c10 (by decide)) (sw_3 c10 (by decide)) (by decide) ?_
    refine j_aload_n dX11_count_166 rfl rfl ?_
    refine j_getR (ci := 11) (N := 9) (f := 6) (T := TX11) 63 dX11_count_167 rfl (hG 0 (16, 9) rfl) rfl (by decide) fl_X11_58 rfl (hP 0 6 63 rfl) ?_
    refine j_getI (ci := 0) (N := 10) (f := 0) (T := TX0) dX11_count_170 rfl (hG 63 (5, 10) rfl) rfl (by decide) fl_X11_248 rfl ?_
    exact j_iret dX11_count_173 rfl (k10 c0 c1 c2 c3 c4 c5 c6 c7 c8 c9 c10)
  by_cases c11 : x1 = (11 : Int32)
  · skip
    refine j_tableIn (off := 165) 174 dX11_count_9 (sw_1 c11 (by decide)) (sw_2 c11 (by decide)) (sw_3 c11 (by decide)) (by decide) ?_
    refine j_aload_n dX11_count_174 rfl rfl ?_
    refine j_getR (ci := 11) (N := 9) (f := 4) (T := TX11) 54 dX11_count_175 rfl (hG 0 (16, 9) rfl) rfl (by decide) fl_X11_40 rfl (hP 0 4 54 rfl) ?_
    refine j_getI (ci := 3) (N := 5) (f := 1) (T := TX3) dX11_count_178 rfl (hG 54 (8, 5) rfl) rfl (by decide) fl_X11_277 rfl ?_
    refine j_cS (as := [.int (μ.1 54 1)]) (rest := []) dX11_count_181 rfl vw_X11_280 ⟨Nat.le_of_ble_eq_true rfl, Nat.le_of_ble_eq_true rfl⟩ rfl rfl (fun _ _ => Nat.le_of_ble_eq_true rfl) (e11 c0 c1 c2 c3 c4 c5 c6 c7 c8 c9 c10 c11) (fun r μ' hr => ?_)
    obtain ⟨v, rfl, hr⟩ := hr
    refine j_forget (ls' := [.null, .null, .null]) ⟨Or.inl rfl, Or.inl rfl, Or.inl rfl, trivial⟩ ?_
    exact k11 c0 c1 c2 c3 c4 c5 c6 c7 c8 c9 c10 c11 v μ' hr
  by_cases c12 : x1 = (12 : Int32)
  · skip
    refine j_tableIn (off := 176) 185 dX11_count_9 (sw_1 c12 (by decide)) (sw_2 c12 (by decide)) (sw_3 c12 (by decide)) (by decide) ?_
    refine j_aload_n dX11_count_185 rfl rfl ?_
    refine j_getR (ci := 11) (N := 9) (f := 2) (T := TX11) 12 dX11_count_186 rfl (hG 0 (16, 9) rfl) rfl (by decide) fl_X11_26 rfl (hP 0 2 12 rfl) ?_
    refine j_aload_n dX11_count_189 rfl rfl ?_
    refine j_getR (ci := 11) (N := 9) (f := 3) (T := TX11) 52 dX11_count_190 rfl (hG 0 (16, 9) rfl) rfl (by decide) fl_X11_33 rfl (hP 0 3 52 rfl) ?_
    refine j_cV (as := [.ref 52]) (rest := []) dX11_count_193 rfl vw_X11_81 (hG 12 (15, 11) rfl) rfl ⟨Nat.le_of_ble_eq_true rfl, Nat.le_of_ble_eq_true rfl⟩ rfl rfl (fun _ _ => Nat.le_of_ble_eq_true rfl) (e12 c0 c1 c2 c3 c4 c5 c6 c7 c8 c9 c10 c11 c12) (fun r μ' hr => ?_)
    obtain ⟨rfl, hr⟩ := hr
    refine j_forget (ls' := [.ref 0, .null, .null]) ⟨Or.inr rfl, Or.inl rfl, Or.inl rfl, trivial⟩ ?_
    exact k12 c0 c1 c2 c3 c4 c5 c6 c7 c8 c9 c10 c11 c12 μ' hr
  refine j_tableOut 204 dX11_count_9 (sw_o [0, 1, 2, 3, 4, 5, 6, 7, 8, 9, 10, 11, 12] (by decide) ⟨c0, c1, c2, c3, c4, c5, c6, c7, c8, c9, c10, c11, c12, trivial⟩) (by decide) ?_
  refine j_iconst (-1) dX11_count_204 rfl (by decide) ?_
  exact j_iret dX11_count_205 rfl (k13 c0 c1 c2 c3 c4 c5 c6 c7 c8 c9 c10 c11 c12)
theorem b_X11_count_142 {l : Launch} {G : jG} {μ : jM} {φ : Int32 → jM → Prop} (hG : gGG G) (hP : gPP μ) 
    (k0 : φ (μ.1 12 1) μ) :
    J l mX11_count (jZ0 4 G (pI φ)) G 0 0 142 [.ref 0, .null, .null] [] μ := by
  refine j_aload_n dX11_count_142 rfl rfl ?_
  refine j_getR (ci := 11) (N := 9) (f := 2) (T := TX11) 12 dX11_count_143 rfl (hG 0 (16, 9) rfl) rfl (by decide) fl_X11_26 rfl (hP 0 2 12 rfl) ?_
  refine j_getI (ci := 10) (N := 11) (f := 1) (T := TX10) dX11_count_146 rfl (hG 12 (15, 11) rfl) rfl (by decide) fl_X11_273 rfl ?_
  exact j_iret dX11_count_149 rfl (k0 )
theorem b_X11_count_184 {l : Launch} {G : jG} {μ : jM} {φ : Int32 → jM → Prop} {z0 : Int32} (hG : gGG G) (hP : gPP μ) 
    (k0 : φ z0 μ) :
    J l mX11_count (jZ0 4 G (pI φ)) G 0 0 184 [.null, .null, .null] [.int z0] μ := by
  exact j_iret dX11_count_184 rfl (k0 )
theorem b_X11_count_196 {l : Launch} {G : jG} {μ : jM} {φ : Int32 → jM → Prop} (hG : gGG G) (hP : gPP μ) 
    (k0 : φ (μ.1 12 4) μ) :
    J l mX11_count (jZ0 4 G (pI φ)) G 0 0 196 [.ref 0, .null, .null] [] μ := by
  refine j_aload_n dX11_count_196 rfl rfl ?_
  refine j_getR (ci := 11) (N := 9) (f := 2) (T := TX11) 12 dX11_count_197 rfl (hG 0 (16, 9) rfl) rfl (by decide) fl_X11_26 rfl (hP 0 2 12 rfl) ?_
  refine j_getI (ci := 10) (N := 11) (f := 4) (T := TX10) dX11_count_200 rfl (hG 12 (15, 11) rfl) rfl (by decide) fl_X11_125 rfl ?_
  exact j_iret dX11_count_203 rfl (k0 )
theorem b_X11_beginThing_0 {l : Launch} {G : jG} {μ : jM} {φ : jM → Prop} {ψ0 : jM → Prop} (hG : gGG G) (hP : gPP μ) 
    (e0 : jC0 l mX3_keep 1 G [.ref 54, .ref 52] μ (pV ψ0)) 
    (k0 : ∀ μ', ψ0 μ' → J l mX11_beginThing (jZ0 2 G (pV φ)) G 0 0 11 [.ref 0] [] μ') :
    J l mX11_beginThing (jZ0 2 G (pV φ)) G 0 0 0 [.ref 0] [] μ := by
  refine j_aload_n dX11_beginThing_0 rfl rfl ?_
  refine j_getR (ci := 11) (N := 9) (f := 4) (T := TX11) 54 dX11_beginThing_1 rfl (hG 0 (16, 9) rfl) rfl (by decide) fl_X11_40 rfl (hP 0 4 54 rfl) ?_
  refine j_aload_n dX11_beginThing_4 rfl rfl ?_
  refine j_getR (ci := 11) (N := 9) (f := 3) (T := TX11) 52 dX11_beginThing_5 rfl (hG 0 (16, 9) rfl) rfl (by decide) fl_X11_33 rfl (hP 0 3 52 rfl) ?_
  refine j_cV (as := [.ref 52]) (rest := []) dX11_beginThing_8 rfl vw_X11_285 (hG 54 (8, 5) rfl) rfl ⟨Nat.le_of_ble_eq_true rfl, Nat.le_of_ble_eq_true rfl⟩ rfl rfl (fun _ _ => Nat.le_of_ble_eq_true rfl) (e0 ) (fun r μ' hr => ?_)
  obtain ⟨rfl, hr⟩ := hr
  exact k0  μ' hr
theorem b_X11_beginThing_11 {l : Launch} {G : jG} {μ : jM} {φ : jM → Prop} {ψ0 : jM → Prop} (hG : gGG G) (hP : gPP μ) 
    (e0 : jC0 l mX1_outdate 0 G [.ref 57] μ (pV ψ0)) 
    (k0 : ∀ μ', ψ0 μ' → J l mX11_beginThing (jZ0 2 G (pV φ)) G 0 0 18 [.null] [] μ') :
    J l mX11_beginThing (jZ0 2 G (pV φ)) G 0 0 11 [.ref 0] [] μ := by
  refine j_aload_n dX11_beginThing_11 rfl rfl ?_
  refine j_getR (ci := 11) (N := 9) (f := 5) (T := TX11) 57 dX11_beginThing_12 rfl (hG 0 (16, 9) rfl) rfl (by decide) fl_X11_49 rfl (hP 0 5 57 rfl) ?_
  refine j_cV (as := []) (rest := []) dX11_beginThing_15 rfl vw_X11_102 (hG 57 (6, 9) rfl) rfl ⟨Nat.le_of_ble_eq_true rfl, Nat.le_of_ble_eq_true rfl⟩ rfl rfl (fun _ _ => Nat.le_of_ble_eq_true rfl) (e0 ) (fun r μ' hr => ?_)
  obtain ⟨rfl, hr⟩ := hr
  refine j_forget (ls' := [.null]) ⟨Or.inl rfl, trivial⟩ ?_
  exact k0  μ' hr
theorem b_X11_beginThing_18 {l : Launch} {G : jG} {μ : jM} {φ : jM → Prop} (hG : gGG G) (hP : gPP μ) 
    (k0 : φ μ) :
    J l mX11_beginThing (jZ0 2 G (pV φ)) G 0 0 18 [.null] [] μ := by
  exact j_vret dX11_beginThing_18 rfl (k0 )
theorem b_X11_isRoad_0 {l : Launch} {G : jG} {μ : jM} {φ : Int32 → jM → Prop} {x1 : Int32} {t : Nat} (hG : gGG G) (hP : gPP μ) (ht : tO gTold pTold G μ t) (q12_0 : μ.2.2 12 0 = some t) 
    (k0 : (x1 < (0 : Int32)) → φ 0 μ) 
    (k1 : (¬ (x1 < (0 : Int32))) → ((μ.1 t 1) ≤ (x1 : Int32)) → φ 0 μ) 
    (k2 : (¬ (x1 < (0 : Int32))) → (¬ ((μ.1 t 1) ≤ (x1 : Int32))) → φ 1 μ) :
    J l mX11_isRoad (jZ0 0 G (pI φ)) G 0 0 0 [.ref 0, .int x1] [] μ := by
  refine j_iload_n dX11_isRoad_0 rfl rfl ?_
  refine j_if_lt 22 dX11_isRoad_1 rfl (by decide) (fun c0 => ?_) (fun c0 => ?_)
  · skip
    refine j_iconst 0 dX11_isRoad_22 rfl (by decide) ?_
    exact j_zret dX11_isRoad_23 rfl (by decide) (k0 c0)
  · skip
    refine j_iload_n dX11_isRoad_4 rfl rfl ?_
    refine j_aload_n dX11_isRoad_5 rfl rfl ?_
    refine j_getR (ci := 11) (N := 9) (f := 2) (T := TX11) 12 dX11_isRoad_6 rfl (hG 0 (16, 9) rfl) rfl (by decide) fl_X11_26 rfl (hP 0 2 12 rfl) ?_
    refine j_getR (ci := 10) (N := 11) (f := 0) (T := TX10) t dX11_isRoad_9 rfl (hG 12 (15, 11) rfl) rfl (by decide) fl_X11_97 rfl q12_0 ?_
    refine j_getI (ci := 8) (N := 20) (f := 1) (T := TX8) dX11_isRoad_12 rfl (ht.1 0 (13, 20) rfl) rfl (by decide) fl_X11_195 rfl ?_
    refine j_icmp_ge 22 dX11_isRoad_15 rfl (by decide) (fun c1 => ?_) (fun c1 => ?_)
    · skip
      refine j_iconst 0 dX11_isRoad_22 rfl (by decide) ?_
      exact j_zret dX11_isRoad_23 rfl (by decide) (k1 c0 c1)
    · skip
      refine j_iconst 1 dX11_isRoad_18 rfl (by decide) ?_
      refine j_goto 23 dX11_isRoad_19 (by decide) ?_
      exact j_zret dX11_isRoad_23 rfl (by decide) (k2 c0 c1)
theorem b_X11_isGhost_0 {l : Launch} {G : jG} {μ : jM} {φ : Int32 → jM → Prop} {x1 : Int32} {t : Nat} (hG : gGG G) (hP : gPP μ) (ht : tO gTold pTold G μ t) (q12_0 : μ.2.2 12 0 = some t) 
    (k0 : (x1 < (0 : Int32)) → φ 0 μ) 
    (k1 : (¬ (x1 < (0 : Int32))) → ((μ.1 t 2) ≤ (x1 : Int32)) → φ 0 μ) 
    (k2 : (¬ (x1 < (0 : Int32))) → (¬ ((μ.1 t 2) ≤ (x1 : Int32))) → φ 1 μ) :
    J l mX11_isGhost (jZ0 0 G (pI φ)) G 0 0 0 [.ref 0, .int x1] [] μ := by
  refine j_iload_n dX11_isGhost_0 rfl rfl ?_
  refine j_if_lt 22 dX11_isGhost_1 rfl (by decide) (fun c0 => ?_) (fun c0 => ?_)
  · skip
    refine j_iconst 0 dX11_isGhost_22 rfl (by decide) ?_
    exact j_zret dX11_isGhost_23 rfl (by decide) (k0 c0)
  · skip
    refine j_iload_n dX11_isGhost_4 rfl rfl ?_
    refine j_aload_n dX11_isGhost_5 rfl rfl ?_
    refine j_getR (ci := 11) (N := 9) (f := 2) (T := TX11) 12 dX11_isGhost_6 rfl (hG 0 (16, 9) rfl) rfl (by decide) fl_X11_26 rfl (hP 0 2 12 rfl) ?_
    refine j_getR (ci := 10) (N := 11) (f := 0) (T := TX10) t dX11_isGhost_9 rfl (hG 12 (15, 11) rfl) rfl (by decide) fl_X11_97 rfl q12_0 ?_
    refine j_getI (ci := 8) (N := 20) (f := 2) (T := TX8) dX11_isGhost_12 rfl (ht.1 0 (13, 20) rfl) rfl (by decide) fl_X11_270 rfl ?_
    refine j_icmp_ge 22 dX11_isGhost_15 rfl (by decide) (fun c1 => ?_) (fun c1 => ?_)
    · skip
      refine j_iconst 0 dX11_isGhost_22 rfl (by decide) ?_
      exact j_zret dX11_isGhost_23 rfl (by decide) (k1 c0 c1)
    · skip
      refine j_iconst 1 dX11_isGhost_18 rfl (by decide) ?_
      refine j_goto 23 dX11_isGhost_19 (by decide) ?_
      exact j_zret dX11_isGhost_23 rfl (by decide) (k2 c0 c1)
