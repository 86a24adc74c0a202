theorem b_X10_begin_0 {l : Launch} {G : jG} {μ : jM} {φ : jM → Prop} {dr : Nat} (hG : gGG G) (hP : gPP μ) (hdr : tO gTold pTold G μ dr) 
    (k0 : J l mX10_begin (jZ0 0 G (pV φ)) G 0 0 5 [.ref 12, .null, .null] [] (wP μ 12 0 (some dr))) :
    J l mX10_begin (jZ0 0 G (pV φ)) G 0 0 0 [.ref 12, .ref dr, .null] [] μ := by
  refine j_aload_n dX10_begin_0 rfl rfl ?_
  refine j_aload_n dX10_begin_1 rfl rfl ?_
  refine j_putR (ci := 10) (N := 11) (f := 0) (T := TX10) dX10_begin_2 rfl (hG 12 (15, 11) rfl) rfl (by decide) fl_X10_30 rfl rfl ?_
  refine j_forget (ls' := [.ref 12, .null, .null]) ⟨Or.inr rfl, Or.inl rfl, Or.inr rfl, trivial⟩ ?_
  exact k0 
theorem b_X10_begin_5 {l : Launch} {G : jG} {μ : jM} {φ : jM → Prop} (hG : gGG G) (hP : gPP μ) 
    (k0 : J l mX10_begin (jZ0 0 G (pV φ)) G 0 0 14 [.ref 12, .null, .int 0] [] (wL μ 12 7 (-1))) :
    J l mX10_begin (jZ0 0 G (pV φ)) G 0 0 5 [.ref 12, .null, .null] [] μ := by
  refine j_aload_n dX10_begin_5 rfl rfl ?_
  refine j_ldc2 (-1) dX10_begin_6 rfl ck_X10_34 ?_
  refine j_putL (ci := 10) (N := 11) (f := 7) (T := TX10) dX10_begin_9 rfl (hG 12 (15, 11) rfl) rfl (by decide) fl_X10_36 rfl rfl ?_
  refine j_iconst 0 dX10_begin_12 rfl (by decide) ?_
  refine j_istore_n (ls' := [.ref 12, .null, .int 0]) dX10_begin_13 rfl rfl (Nat.le_of_ble_eq_true rfl) rfl ?_
  exact k0 
theorem b_X10_begin_14 {l : Launch} {G : jG} {μ : jM} {φ : jM → Prop} {x2 : Int32} {y : Nat} (hG : gGG G) (hP : gPP μ) (hy : tO gWay pWay G μ y) 
    (k0 : (7 ≤ (x2 : Int32)) → φ μ) 
    (o0 : (¬ (7 ≤ (x2 : Int32))) → vp_in x2 7) 
    (o1 : (¬ (7 ≤ (x2 : Int32))) → μ.2.2 13 (Int32.toNatClampNeg x2) = some y) 
    (k1 : (¬ (7 ≤ (x2 : Int32))) → J l mX10_begin (jZ0 0 G (pV φ)) G 0 0 14 [.ref 12, .null, .int (x2 + 1)] [] (wI μ y 0 0)) :
    J l mX10_begin (jZ0 0 G (pV φ)) G 0 0 14 [.ref 12, .null, .int x2] [] μ := by
  refine j_iload_n dX10_begin_14 rfl rfl ?_
  refine j_bipush 7 dX10_begin_15 rfl (by decide) ?_
  refine j_icmp_ge 36 dX10_begin_17 rfl (by decide) (fun c0 => ?_) (fun c0 => ?_)
  · skip
    exact j_vret dX10_begin_36 rfl (k0 c0)
  · skip
    refine j_aload_n dX10_begin_20 rfl rfl ?_
    refine j_getR (ci := 10) (N := 11) (f := 3) (T := TX10) 13 dX10_begin_21 rfl (hG 12 (15, 11) rfl) rfl (by decide) fl_X10_11 rfl (hP 12 3 13 rfl) ?_
    refine j_iload_n dX10_begin_24 rfl rfl ?_
    refine j_aald' (j := (Int32.toNatClampNeg x2)) dX10_begin_25 rfl (hG 13 (4, 7) rfl) (o0 c0) rfl (o1 c0) ?_
    refine j_iconst 0 dX10_begin_26 rfl (by decide) ?_
    refine j_putB (ci := 9) (N := 9) (f := 0) (T := TX9) dX10_begin_27 rfl (hy.1 0 (14, 9) rfl) rfl (by decide) fl_X10_40 rfl rfl (by decide) ?_
    refine j_iinc (x2 + 1) (ls' := [.ref 12, .null, .int (x2 + 1)]) dX10_begin_30 rfl rfl rfl (Nat.le_of_ble_eq_true rfl) rfl ?_
    refine j_goto 14 dX10_begin_33 (by decide) ?_
    exact k1 c0
theorem b_X10_enter_0 {l : Launch} {G : jG} {μ : jM} {φ : jM → Prop} {s : Nat} (hG : gGG G) (hP : gPP μ) (hs : tO gState pState G μ s) 
    (k0 : J l mX10_enter (jZ0 3 G (pV φ)) G 0 0 8 [.ref 12, .null] [] (wP μ 12 5 (some (s + 1)))) :
    J l mX10_enter (jZ0 3 G (pV φ)) G 0 0 0 [.ref 12, .ref s] [] μ := by
  refine j_aload_n dX10_enter_0 rfl rfl ?_
  refine j_aload_n dX10_enter_1 rfl rfl ?_
  refine j_getR (ci := 5) (N := 1) (f := 0) (T := TX5) (s + 1) dX10_enter_2 rfl (hs.1 0 (10, 1) rfl) rfl (by decide) fl_X10_44 rfl (hs.2 0 0 1 rfl) ?_
  refine j_putR (ci := 10) (N := 11) (f := 5) (T := TX10) dX10_enter_5 rfl (hG 12 (15, 11) rfl) rfl (by decide) fl_X10_49 rfl rfl ?_
  refine j_forget (ls' := [.ref 12, .null]) ⟨Or.inr rfl, Or.inl rfl, trivial⟩ ?_
  exact k0 
theorem b_X10_enter_8 {l : Launch} {G : jG} {μ : jM} {φ : jM → Prop} {ψ0 : jM → Prop} (hG : gGG G) (hP : gPP μ) 
    (e0 : jC0 l mX10_lookAtNight 2 G [.ref 12] μ (pV ψ0)) 
    (k0 : ∀ μ', ψ0 μ' → J l mX10_enter (jZ0 3 G (pV φ)) G 0 0 12 [.ref 12, .null] [] μ') :
    J l mX10_enter (jZ0 3 G (pV φ)) G 0 0 8 [.ref 12, .null] [] μ := by
  refine j_aload_n dX10_enter_8 rfl rfl ?_
  refine j_cV (as := []) (rest := []) dX10_enter_9 rfl vw_X10_50 (hG 12 (15, 11) rfl) rfl ⟨Nat.le_of_ble_eq_true rfl, Nat.le_of_ble_eq_true rfl⟩ rfl rfl (fun _ _ => Nat.le_of_ble_eq_true rfl) (e0 ) (fun r μ' hr => ?_)
  obtain ⟨rfl, hr⟩ := hr
  exact k0  μ' hr
theorem b_X10_enter_12 {l : Launch} {G : jG} {μ : jM} {φ : jM → Prop} {ψ0 : Int32 → jM → Prop} (hG : gGG G) (hP : gPP μ) 
    (e0 : jC0 l mX10_findBroken 0 G [.ref 12] μ (pI ψ0)) 
    (k0 : ∀ v μ', ψ0 v μ' → J l mX10_enter (jZ0 3 G (pV φ)) G 0 0 17 [.ref 12, .null] [.int v, .ref 12] μ') :
    J l mX10_enter (jZ0 3 G (pV φ)) G 0 0 12 [.ref 12, .null] [] μ := by
  refine j_aload_n dX10_enter_12 rfl rfl ?_
  refine j_aload_n dX10_enter_13 rfl rfl ?_
  refine j_cV (as := []) (rest := [.ref 12]) dX10_enter_14 rfl vw_X10_53 (hG 12 (15, 11) rfl) rfl ⟨Nat.le_of_ble_eq_true rfl, Nat.le_of_ble_eq_true rfl⟩ rfl rfl (fun _ _ => Nat.le_of_ble_eq_true rfl) (e0 ) (fun r μ' hr => ?_)
  obtain ⟨v, rfl, hr⟩ := hr
  exact k0  v μ' hr
theorem b_X10_enter_17 {l : Launch} {G : jG} {μ : jM} {φ : jM → Prop} {z0 : Int32} {ψ0 : jM → Prop} (hG : gGG G) (hP : gPP μ) 
    (e0 : jC0 l mX10_doubt 0 G [.ref 12, .int (-1)] (wI μ 12 4 z0) (pV ψ0)) 
    (k0 : ∀ μ', ψ0 μ' → J l mX10_enter (jZ0 3 G (pV φ)) G 0 0 25 [.null, .null] [] μ') :
    J l mX10_enter (jZ0 3 G (pV φ)) G 0 0 17 [.ref 12, .null] [.int z0, .ref 12] μ := by
  refine j_putI (ci := 10) (N := 11) (f := 4) (T := TX10) dX10_enter_17 rfl (hG 12 (15, 11) rfl) rfl (by decide) fl_X10_57 rfl rfl ?_
  refine j_aload_n dX10_enter_20 rfl rfl ?_
  refine j_iconst (-1) dX10_enter_21 rfl (by decide) ?_
  refine j_cV (as := [.int (-1)]) (rest := []) dX10_enter_22 rfl vw_X10_61 (hG 12 (15, 11) rfl) rfl ⟨Nat.le_of_ble_eq_true rfl, Nat.le_of_ble_eq_true rfl⟩ rfl rfl (fun _ _ => Nat.le_of_ble_eq_true rfl) (e0 ) (fun r μ' hr => ?_)
  obtain ⟨rfl, hr⟩ := hr
  refine j_forget (ls' := [.null, .null]) ⟨Or.inl rfl, Or.inr rfl, trivial⟩ ?_
  exact k0  μ' hr
theorem b_X10_enter_25 {l : Launch} {G : jG} {μ : jM} {φ : jM → Prop} (hG : gGG G) (hP : gPP μ) 
    (k0 : φ μ) :
    J l mX10_enter (jZ0 3 G (pV φ)) G 0 0 25 [.null, .null] [] μ := by
  exact j_vret dX10_enter_25 rfl (k0 )
theorem b_X10_changeGates_0 {l : Launch} {G : jG} {μ : jM} {φ : jM → Prop} {x1 : Int32} {ψ0 : jM → Prop} {r : Nat} (hG : gGG G) (hP : gPP μ) (hgr : G[r]? = some (0, 71)) (q12_5 : μ.2.2 12 5 = some r) 
    (e0 : jC0 l mX10_doubt 0 G [.ref 12, .int ((μ.1 r 4) ^^^ x1)] μ (pV ψ0)) 
    (k0 : ∀ μ', ψ0 μ' → J l mX10_changeGates (jZ0 1 G (pV φ)) G 0 0 12 [.ref 12, .int x1] [] μ') :
    J l mX10_changeGates (jZ0 1 G (pV φ)) G 0 0 0 [.ref 12, .int x1] [] μ := by
  refine j_aload_n dX10_changeGates_0 rfl rfl ?_
  refine j_aload_n dX10_changeGates_1 rfl rfl ?_
  refine j_getR (ci := 10) (N := 11) (f := 5) (T := TX10) r dX10_changeGates_2 rfl (hG 12 (15, 11) rfl) rfl (by decide) fl_X10_49 rfl q12_5 ?_
  refine j_iconst 4 dX10_changeGates_5 rfl (by decide) ?_
  refine j_iald' (j := 4) dX10_changeGates_6 rfl hgr (vpK (by decide)) (by decide) ?_
  refine j_iload_n dX10_changeGates_7 rfl rfl ?_
  refine j_ixor dX10_changeGates_8 rfl ?_
  refine j_cV (as := [.int ((μ.1 r 4) ^^^ x1)]) (rest := []) dX10_changeGates_9 rfl vw_X10_61 (hG 12 (15, 11) rfl) rfl ⟨Nat.le_of_ble_eq_true rfl, Nat.le_of_ble_eq_true rfl⟩ rfl rfl (fun _ _ => Nat.le_of_ble_eq_true rfl) (e0 ) (fun r μ' hr => ?_)
  obtain ⟨rfl, hr⟩ := hr
  exact k0  μ' hr
theorem b_X10_changeGates_12 {l : Launch} {G : jG} {μ : jM} {φ : jM → Prop} {x1 : Int32} {r : Nat} (hG : gGG G) (hP : gPP μ) (hgr : G[r]? = some (0, 71)) (q12_5 : μ.2.2 12 5 = some r) 
    (k0 : φ (wI μ r 4 x1)) :
    J l mX10_changeGates (jZ0 1 G (pV φ)) G 0 0 12 [.ref 12, .int x1] [] μ := by
  refine j_aload_n dX10_changeGates_12 rfl rfl ?_
  refine j_getR (ci := 10) (N := 11) (f := 5) (T := TX10) r dX10_changeGates_13 rfl (hG 12 (15, 11) rfl) rfl (by decide) fl_X10_49 rfl q12_5 ?_
  refine j_iconst 4 dX10_changeGates_16 rfl (by decide) ?_
  refine j_iload_n dX10_changeGates_17 rfl rfl ?_
  refine j_iast' (j := 4) dX10_changeGates_18 rfl hgr (vpK (by decide)) (by decide) ?_
  exact j_vret dX10_changeGates_19 rfl (k0 )
theorem b_X10_passNights_0 {l : Launch} {G : jG} {μ : jM} {φ : jM → Prop} {x1 : Int32} (hG : gGG G) (hP : gPP μ) 
    (k0 : J l mX10_passNights (jZ0 5 G (pV φ)) G 0 0 2 [.ref 12, .int x1, .int 0] [] μ) :
    J l mX10_passNights (jZ0 5 G (pV φ)) G 0 0 0 [.ref 12, .int x1, .null] [] μ := by
  refine j_iconst 0 dX10_passNights_0 rfl (by decide) ?_
  refine j_istore_n (ls' := [.ref 12, .int x1, .int 0]) dX10_passNights_1 rfl rfl (Nat.le_of_ble_eq_true rfl) rfl ?_
  exact k0 
theorem b_X10_passNights_2 {l : Launch} {G : jG} {μ : jM} {φ : jM → Prop} {x1 x2 : Int32} {ψ1 : jM → Prop} (hG : gGG G) (hP : gPP μ) 
    (k0 : (x1 ≤ (x2 : Int32)) → φ μ) 
    (e1 : (¬ (x1 ≤ (x2 : Int32))) → jC0 l mX10_passNight 4 G [.ref 12] μ (pV ψ1)) 
    (k1 : (¬ (x1 ≤ (x2 : Int32))) → ∀ μ', ψ1 μ' → J l mX10_passNights (jZ0 5 G (pV φ)) G 0 0 11 [.ref 12, .int x1, .int x2] [] μ') :
    J l mX10_passNights (jZ0 5 G (pV φ)) G 0 0 2 [.ref 12, .int x1, .int x2] [] μ := by
  refine j_iload_n dX10_passNights_2 rfl rfl ?_
  refine j_iload_n dX10_passNights_3 rfl rfl ?_
  refine j_icmp_ge 17 dX10_passNights_4 rfl (by decide) (fun c0 => ?_) (fun c0 => ?_)
  · skip
    exact j_vret dX10_passNights_17 rfl (k0 c0)
  · skip
    refine j_aload_n dX10_passNights_7 rfl rfl ?_
    refine j_cV (as := []) (rest := []) dX10_passNights_8 rfl vw_X10_65 (hG 12 (15, 11) rfl) rfl ⟨Nat.le_of_ble_eq_true rfl, Nat.le_of_ble_eq_true rfl⟩ rfl rfl (fun _ _ => Nat.le_of_ble_eq_true rfl) (e1 c0) (fun r μ' hr => ?_)
    obtain ⟨rfl, hr⟩ := hr
    exact k1 c0 μ' hr
theorem b_X10_passNights_11 {l : Launch} {G : jG} {μ : jM} {φ : jM → Prop} {x1 x2 : Int32} (hG : gGG G) (hP : gPP μ) 
    (k0 : J l mX10_passNights (jZ0 5 G (pV φ)) G 0 0 2 [.ref 12, .int x1, .int (x2 + 1)] [] μ) :
    J l mX10_passNights (jZ0 5 G (pV φ)) G 0 0 11 [.ref 12, .int x1, .int x2] [] μ := by
  refine j_iinc (x2 + 1) (ls' := [.ref 12, .int x1, .int (x2 + 1)]) dX10_passNights_11 rfl rfl rfl (Nat.le_of_ble_eq_true rfl) rfl ?_
  refine j_goto 2 dX10_passNights_14 (by decide) ?_
  exact k0 
theorem b_X10_passNight_0 {l : Launch} {G : jG} {μ : jM} {φ : jM → Prop} {r : Nat} (hG : gGG G) (hP : gPP μ) (hgr : G[r]? = some (0, 71)) (q12_5 : μ.2.2 12 5 = some r) 
    (k0 : J l mX10_passNight (jZ0 4 G (pV φ)) G 0 0 22 [.ref 12, .int ((wI μ 12 2 0).1 r 0), .int ((wI μ 12 2 0).1 r 6), .int 0] [] (wI μ 12 2 0)) :
    J l mX10_passNight (jZ0 4 G (pV φ)) G 0 0 0 [.ref 12, .null, .null, .null] [] μ := by
  refine j_aload_n dX10_passNight_0 rfl rfl ?_
  refine j_iconst 0 dX10_passNight_1 rfl (by decide) ?_
  refine j_putI (ci := 10) (N := 11) (f := 2) (T := TX10) dX10_passNight_2 rfl (hG 12 (15, 11) rfl) rfl (by decide) fl_X10_68 rfl rfl ?_
  refine j_aload_n dX10_passNight_5 rfl rfl ?_
  refine j_getR (ci := 10) (N := 11) (f := 5) (T := TX10) r dX10_passNight_6 rfl (hG 12 (15, 11) rfl) rfl (by decide) fl_X10_49 rfl q12_5 ?_
  refine j_iconst 0 dX10_passNight_9 rfl (by decide) ?_
  refine j_iald' (j := 0) dX10_passNight_10 rfl hgr (vpK (by decide)) (by decide) ?_
  refine j_istore_n (ls' := [.ref 12, .int ((wI μ 12 2 0).1 r 0), .null, .null]) dX10_passNight_11 rfl rfl (Nat.le_of_ble_eq_true rfl) rfl ?_
  refine j_aload_n dX10_passNight_12 rfl rfl ?_
  refine j_getR (ci := 10) (N := 11) (f := 5) (T := TX10) r dX10_passNight_13 rfl (hG 12 (15, 11) rfl) rfl (by decide) fl_X10_49 rfl q12_5 ?_
  refine j_bipush 6 dX10_passNight_16 rfl (by decide) ?_
  refine j_iald' (j := 6) dX10_passNight_18 rfl hgr (vpK (by decide)) (by decide) ?_
  refine j_istore_n (ls' := [.ref 12, .int ((wI μ 12 2 0).1 r 0), .int ((wI μ 12 2 0).1 r 6), .null]) dX10_passNight_19 rfl rfl (Nat.le_of_ble_eq_true rfl) rfl ?_
  refine j_iconst 0 dX10_passNight_20 rfl (by decide) ?_
  refine j_istore_n (ls' := [.ref 12, .int ((wI μ 12 2 0).1 r 0), .int ((wI μ 12 2 0).1 r 6), .int 0]) dX10_passNight_21 rfl rfl (Nat.le_of_ble_eq_true rfl) rfl ?_
  exact k0 
theorem b_X10_passNight_22 {l : Launch} {G : jG} {μ : jM} {φ : jM → Prop} {x1 x2 x3 : Int32} {ψ0 : jM → Prop} {ψ2 : Int32 → jM → Prop} {r t : Nat} (hG : gGG G) (hP : gPP μ) (hgr : G[r]? = some (0, 71)) (ht : tO gTold pTold G μ t) (q12_0 : μ.2.2 12 0 = some t) (q12_5 : μ.2.2 12 5 = some r) 
    (e0 : ((μ.1 t 2) ≤ (x3 : Int32)) → jC0 l mX10_lookAtNight 2 G [.ref 12] (wI μ r 0 (x1 + 1)) (pV ψ0)) 
    (k0 : ((μ.1 t 2) ≤ (x3 : Int32)) → ∀ μ', ψ0 μ' → J l mX10_passNight (jZ0 4 G (pV φ)) G 0 0 101 [.null, .null, .null, .null] [] μ') 
    (k1 : (¬ ((μ.1 t 2) ≤ (x3 : Int32))) → (((x2 >>> (x3 &&& 31)) &&& 1) = (0 : Int32)) → J l mX10_passNight (jZ0 4 G (pV φ)) G 0 0 22 [.ref 12, .int x1, .int x2, .int (x3 + 1)] [] μ) 
    (e2 : (¬ ((μ.1 t 2) ≤ (x3 : Int32))) → (¬ (((x2 >>> (x3 &&& 31)) &&& 1) = (0 : Int32))) → jC0 l mX8_isNightOf 0 G [.ref t, .int x3, .int x1] μ (pI ψ2)) 
    (k2 : (¬ ((μ.1 t 2) ≤ (x3 : Int32))) → (¬ (((x2 >>> (x3 &&& 31)) &&& 1) = (0 : Int32))) → ∀ v μ', ψ2 v μ' → J l mX10_passNight (jZ0 4 G (pV φ)) G 0 0 50 [.ref 12, .int x1, .int x2, .int x3] [.int v] μ') :
    J l mX10_passNight (jZ0 4 G (pV φ)) G 0 0 22 [.ref 12, .int x1, .int x2, .int x3] [] μ := by
  refine j_iload_n dX10_passNight_22 rfl rfl ?_
  refine j_aload_n dX10_passNight_23 rfl rfl ?_
  refine j_getR (ci := 10) (N := 11) (f := 0) (T := TX10) t dX10_passNight_24 rfl (hG 12 (15, 11) rfl) rfl (by decide) fl_X10_30 rfl q12_0 ?_
  refine j_getI (ci := 8) (N := 20) (f := 2) (T := TX8) dX10_passNight_27 rfl (ht.1 0 (13, 20) rfl) rfl (by decide) fl_X10_71 rfl ?_
  refine j_icmp_ge 88 dX10_passNight_30 rfl (by decide) (fun c0 => ?_) (fun c0 => ?_)
  · skip
    refine j_aload_n dX10_passNight_88 rfl rfl ?_
    refine j_getR (ci := 10) (N := 11) (f := 5) (T := TX10) r dX10_passNight_89 rfl (hG 12 (15, 11) rfl) rfl (by decide) fl_X10_49 rfl q12_5 ?_
    refine j_iconst 0 dX10_passNight_92 rfl (by decide) ?_
    refine j_iload_n dX10_passNight_93 rfl rfl ?_
    refine j_iconst 1 dX10_passNight_94 rfl (by decide) ?_
    refine j_iadd dX10_passNight_95 rfl ?_
    refine j_iast' (j := 0) dX10_passNight_96 rfl hgr (vpK (by decide)) (by decide) ?_
    refine j_aload_n dX10_passNight_97 rfl rfl ?_
    refine j_cV (as := []) (rest := []) dX10_passNight_98 rfl vw_X10_50 (hG 12 (15, 11) rfl) rfl ⟨Nat.le_of_ble_eq_true rfl, Nat.le_of_ble_eq_true rfl⟩ rfl rfl (fun _ _ => Nat.le_of_ble_eq_true rfl) (e0 c0) (fun r μ' hr => ?_)
    obtain ⟨rfl, hr⟩ := hr
    refine j_forget (ls' := [.null, .null, .null, .null]) ⟨Or.inl rfl, Or.inl rfl, Or.inl rfl, Or.inl rfl, trivial⟩ ?_
    exact k0 c0 μ' hr
  · skip
    refine j_iload_n dX10_passNight_33 rfl rfl ?_
    refine j_iload_n dX10_passNight_34 rfl rfl ?_
    refine j_ishr dX10_passNight_35 rfl ?_
    refine j_iconst 1 dX10_passNight_36 rfl (by decide) ?_
    refine j_iand dX10_passNight_37 rfl ?_
    refine j_if_eq 82 dX10_passNight_38 rfl (by decide) (fun c1 => ?_) (fun c1 => ?_)
    · skip
      refine j_iinc (x3 + 1) (ls' := [.ref 12, .int x1, .int x2, .int (x3 + 1)]) dX10_passNight_82 rfl rfl rfl (Nat.le_of_ble_eq_true rfl) rfl ?_
      refine j_goto 22 dX10_passNight_85 (by decide) ?_
      exact k1 c0 c1
    · skip
      refine j_aload_n dX10_passNight_41 rfl rfl ?_
      refine j_getR (ci := 10) (N := 11) (f := 0) (T := TX10) t dX10_passNight_42 rfl (hG 12 (15, 11) rfl) rfl (by decide) fl_X10_30 rfl q12_0 ?_
      refine j_iload_n dX10_passNight_45 rfl rfl ?_
      refine j_iload_n dX10_passNight_46 rfl rfl ?_
      refine j_cV (as := [.int x3, .int x1]) (rest := []) dX10_passNight_47 rfl vw_X10_76 (ht.1 0 (13, 20) rfl) rfl ⟨Nat.le_of_ble_eq_true rfl, Nat.le_of_ble_eq_true rfl⟩ rfl rfl (fun _ _ => Nat.le_of_ble_eq_true rfl) (e2 c0 c1) (fun r μ' hr => ?_)
      obtain ⟨v, rfl, hr⟩ := hr
      exact k2 c0 c1 v μ' hr
theorem b_X10_passNight_50 {l : Launch} {G : jG} {μ : jM} {φ : jM → Prop} {x1 x2 x3 z0 : Int32} {ψ1 : Int32 → jM → Prop} (hG : gGG G) (hP : gPP μ) 
    (k0 : (z0 = (0 : Int32)) → J l mX10_passNight (jZ0 4 G (pV φ)) G 0 0 22 [.ref 12, .int x1, .int x2, .int (x3 + 1)] [] μ) 
    (e1 : (¬ (z0 = (0 : Int32))) → jC0 l mX10_findWay 3 G [.ref 12, .int x3] μ (pI ψ1)) 
    (k1 : (¬ (z0 = (0 : Int32))) → ∀ v μ', ψ1 v μ' → J l mX10_passNight (jZ0 4 G (pV φ)) G 0 0 58 [.ref 12, .int x1, .int x2, .int x3] [.int v] μ') :
    J l mX10_passNight (jZ0 4 G (pV φ)) G 0 0 50 [.ref 12, .int x1, .int x2, .int x3] [.int z0] μ := by
  refine j_if_eq 82 dX10_passNight_50 rfl (by decide) (fun c0 => ?_) (fun c0 => ?_)
  · skip
    refine j_iinc (x3 + 1) (ls' := [.ref 12, .int x1, .int x2, .int (x3 + 1)]) dX10_passNight_82 rfl rfl rfl (Nat.le_of_ble_eq_true rfl) rfl ?_
    refine j_goto 22 dX10_passNight_85 (by decide) ?_
    exact k0 c0
  · skip
    refine j_aload_n dX10_passNight_53 rfl rfl ?_
    refine j_iload_n dX10_passNight_54 rfl rfl ?_
    refine j_cV (as := [.int x3]) (rest := []) dX10_passNight_55 rfl vw_X10_80 (hG 12 (15, 11) rfl) rfl ⟨Nat.le_of_ble_eq_true rfl, Nat.le_of_ble_eq_true rfl⟩ rfl rfl (fun _ _ => Nat.le_of_ble_eq_true rfl) (e1 c0) (fun r μ' hr => ?_)
    obtain ⟨v, rfl, hr⟩ := hr
    exact k1 c0 v μ' hr
theorem b_X10_passNight_58 {l : Launch} {G : jG} {μ : jM} {φ : jM → Prop} {x1 x2 x3 z0 : Int32} {ψ1 : jM → Prop} {r : Nat} (hG : gGG G) (hP : gPP μ) (hgr : G[r]? = some (0, 71)) (q12_5 : μ.2.2 12 5 = some r) 
    (o0 : (z0 = (0 : Int32)) → vp_in (57 + x3) 71) 
    (k0 : (z0 = (0 : Int32)) → J l mX10_passNight (jZ0 4 G (pV φ)) G 0 0 22 [.ref 12, .int x1, .int x2, .int (x3 + 1)] [] (wI μ r (Int32.toNatClampNeg (57 + x3)) ((μ.1 r (Int32.toNatClampNeg (57 + x3))) + 1))) 
    (e1 : (¬ (z0 = (0 : Int32))) → jC0 l mX10_walk 2 G [.ref 12, .int x3] μ (pV ψ1)) 
    (k1 : (¬ (z0 = (0 : Int32))) → ∀ μ', ψ1 μ' → J l mX10_passNight (jZ0 4 G (pV φ)) G 0 0 66 [.ref 12, .int x1, .int x2, .int x3] [] μ') :
    J l mX10_passNight (jZ0 4 G (pV φ)) G 0 0 58 [.ref 12, .int x1, .int x2, .int x3] [.int z0] μ := by
  refine j_if_eq 69 dX10_passNight_58 rfl (by decide) (fun c0 => ?_) (fun c0 => ?_)
  · skip
    refine j_aload_n dX10_passNight_69 rfl rfl ?_
    refine j_getR (ci := 10) (N := 11) (f := 5) (T := TX10) r dX10_passNight_70 rfl (hG 12 (15, 11) rfl) rfl (by decide) fl_X10_49 rfl q12_5 ?_
    refine j_bipush 57 dX10_passNight_73 rfl (by decide) ?_
    refine j_iload_n dX10_passNight_75 rfl rfl ?_
    refine j_iadd dX10_passNight_76 rfl ?_
    refine j_dup2 dX10_passNight_77 rfl (fun _ _ => rfl) (fun _ _ => rfl) ?_
    refine j_iald' (j := (Int32.toNatClampNeg (57 + x3))) dX10_passNight_78 rfl hgr (o0 c0) rfl ?_
    refine j_iconst 1 dX10_passNight_79 rfl (by decide) ?_
    refine j_iadd dX10_passNight_80 rfl ?_
    refine j_iast' (j := (Int32.toNatClampNeg (57 + x3))) dX10_passNight_81 rfl hgr (o0 c0) rfl ?_
    refine j_iinc (x3 + 1) (ls' := [.ref 12, .int x1, .int x2, .int (x3 + 1)]) dX10_passNight_82 rfl rfl rfl (Nat.le_of_ble_eq_true rfl) rfl ?_
    refine j_goto 22 dX10_passNight_85 (by decide) ?_
    exact k0 c0
  · skip
    refine j_aload_n dX10_passNight_61 rfl rfl ?_
    refine j_iload_n dX10_passNight_62 rfl rfl ?_
    refine j_cV (as := [.int x3]) (rest := []) dX10_passNight_63 rfl vw_X10_84 (hG 12 (15, 11) rfl) rfl ⟨Nat.le_of_ble_eq_true rfl, Nat.le_of_ble_eq_true rfl⟩ rfl rfl (fun _ _ => Nat.le_of_ble_eq_true rfl) (e1 c0) (fun r μ' hr => ?_)
    obtain ⟨rfl, hr⟩ := hr
    exact k1 c0 μ' hr
theorem b_X10_passNight_66 {l : Launch} {G : jG} {μ : jM} {φ : jM → Prop} {x1 x2 x3 : Int32} (hG : gGG G) (hP : gPP μ) 
    (k0 : J l mX10_passNight (jZ0 4 G (pV φ)) G 0 0 22 [.ref 12, .int x1, .int x2, .int (x3 + 1)] [] μ) :
    J l mX10_passNight (jZ0 4 G (pV φ)) G 0 0 66 [.ref 12, .int x1, .int x2, .int x3] [] μ := by
  refine j_goto 82 dX10_passNight_66 (by decide) ?_
  refine j_iinc (x3 + 1) (ls' := [.ref 12, .int x1, .int x2, .int (x3 + 1)]) dX10_passNight_82 rfl rfl rfl (Nat.le_of_ble_eq_true rfl) rfl ?_
  refine j_goto 22 dX10_passNight_85 (by decide) ?_
  exact k0 
theorem b_X10_passNight_101 {l : Launch} {G : jG} {μ : jM} {φ : jM → Prop} (hG : gGG G) (hP : gPP μ) 
    (k0 : φ μ) :
    J l mX10_passNight (jZ0 4 G (pV φ)) G 0 0 101 [.null, .null, .null, .null] [] μ := by
  exact j_vret dX10_passNight_101 rfl (k0 )
theorem b_X10_findWay_0 {l : Launch} {G : jG} {μ : jM} {φ : Int32 → jM → Prop} {x1 : Int32} {y : Nat} (hG : gGG G) (hP : gPP μ) (hy : tO gWay pWay G μ y) 
    (o0 : vp_in x1 7) 
    (o1 : μ.2.2 13 (Int32.toNatClampNeg x1) = some y) 
    (k0 : J l mX10_findWay (jZ0 3 G (pI φ)) G 0 0 20 [.ref 12, .int x1, .ref y, .int (μ.1 y 1), .int 0] [] (wI μ y 1 0)) :
    J l mX10_findWay (jZ0 3 G (pI φ)) G 0 0 0 [.ref 12, .int x1, .null, .null, .null] [] μ := by
  refine j_aload_n dX10_findWay_0 rfl rfl ?_
  refine j_getR (ci := 10) (N := 11) (f := 3) (T := TX10) 13 dX10_findWay_1 rfl (hG 12 (15, 11) rfl) rfl (by decide) fl_X10_11 rfl (hP 12 3 13 rfl) ?_
  refine j_iload_n dX10_findWay_4 rfl rfl ?_
  refine j_aald' (j := (Int32.toNatClampNeg x1)) dX10_findWay_5 rfl (hG 13 (4, 7) rfl) o0 rfl o1 ?_
  refine j_astore_n (ls' := [.ref 12, .int x1, .ref y, .null, .null]) dX10_findWay_6 rfl rfl (Nat.le_of_ble_eq_true rfl) rfl ?_
  refine j_aload_n dX10_findWay_7 rfl rfl ?_
  refine j_getI (ci := 9) (N := 9) (f := 1) (T := TX9) dX10_findWay_8 rfl (hy.1 0 (14, 9) rfl) rfl (by decide) fl_X10_87 rfl ?_
  refine j_istore_n (ls' := [.ref 12, .int x1, .ref y, .int (μ.1 y 1), .null]) dX10_findWay_11 rfl rfl (Nat.le_of_ble_eq_true rfl) rfl ?_
  refine j_aload_n dX10_findWay_12 rfl rfl ?_
  refine j_iconst 0 dX10_findWay_13 rfl (by decide) ?_
  refine j_putI (ci := 9) (N := 9) (f := 1) (T := TX9) dX10_findWay_14 rfl (hy.1 0 (14, 9) rfl) rfl (by decide) fl_X10_87 rfl rfl ?_
  refine j_iconst 0 dX10_findWay_17 rfl (by decide) ?_
  refine j_istore (ls' := [.ref 12, .int x1, .ref y, .int (μ.1 y 1), .int 0]) dX10_findWay_18 rfl (Nat.le_of_ble_eq_true rfl) rfl ?_
  exact k0 
theorem b_X10_findWay_20 {l : Launch} {G : jG} {μ : jM} {φ : Int32 → jM → Prop} {x1 x3 x4 : Int32} {ψ0 : Int32 → jM → Prop} {ψ1 : jM → Prop} {ψ2 : Int32 → jM → Prop} {ψ3 : jM → Prop} {ψ5 : Int32 → jM → Prop} {ψ6 : jM → Prop} {t y : Nat} (hG : gGG G) (hP : gPP μ) (ht : tO gTold pTold G μ t) (hy : tO gWay pWay G μ y) (q12_0 : μ.2.2 12 0 = some t) 
    (e0 : ((μ.1 t 1) ≤ (x4 : Int32)) → (¬ (μ.1 y 0) = (0 : Int32)) → jC0 l mX9_isThere 0 G [.ref y] μ (pI ψ0)) 
    (k0 : ((μ.1 t 1) ≤ (x4 : Int32)) → (¬ (μ.1 y 0) = (0 : Int32)) → ∀ v μ', ψ0 v μ' → J l mX10_findWay (jZ0 3 G (pI φ)) G 0 0 104 [.null, .null, .null, .null, .null] [.int v] μ') 
    (e1 : ((μ.1 t 1) ≤ (x4 : Int32)) → ((μ.1 y 0) = (0 : Int32)) → jC0 l mX9_seek 2 G [.ref y, .ref t, .int x1] μ (pV ψ1)) 
    (k1 : ((μ.1 t 1) ≤ (x4 : Int32)) → ((μ.1 y 0) = (0 : Int32)) → ∀ μ', ψ1 μ' → J l mX10_findWay (jZ0 3 G (pI φ)) G 0 0 100 [.null, .null, .ref y, .null, .null] [] μ') 
    (e2 : (¬ ((μ.1 t 1) ≤ (x4 : Int32))) → (((Int32.toUInt32 x3 >>> (Int32.toUInt32 x4 &&& Int32.toUInt32 31)).toInt32) = (0 : Int32)) → (¬ (μ.1 y 0) = (0 : Int32)) → jC0 l mX9_isThere 0 G [.ref y] μ (pI ψ2)) 
    (k2 : (¬ ((μ.1 t 1) ≤ (x4 : Int32))) → (((Int32.toUInt32 x3 >>> (Int32.toUInt32 x4 &&& Int32.toUInt32 31)).toInt32) = (0 : Int32)) → (¬ (μ.1 y 0) = (0 : Int32)) → ∀ v μ', ψ2 v μ' → J l mX10_findWay (jZ0 3 G (pI φ)) G 0 0 104 [.null, .null, .null, .null, .null] [.int v] μ') 
    (e3 : (¬ ((μ.1 t 1) ≤ (x4 : Int32))) → (((Int32.toUInt32 x3 >>> (Int32.toUInt32 x4 &&& Int32.toUInt32 31)).toInt32) = (0 : Int32)) → ((μ.1 y 0) = (0 : Int32)) → jC0 l mX9_seek 2 G [.ref y, .ref t, .int x1] μ (pV ψ3)) 
    (k3 : (¬ ((μ.1 t 1) ≤ (x4 : Int32))) → (((Int32.toUInt32 x3 >>> (Int32.toUInt32 x4 &&& Int32.toUInt32 31)).toInt32) = (0 : Int32)) → ((μ.1 y 0) = (0 : Int32)) → ∀ μ', ψ3 μ' → J l mX10_findWay (jZ0 3 G (pI φ)) G 0 0 100 [.null, .null, .ref y, .null, .null] [] μ') 
    (k4 : (¬ ((μ.1 t 1) ≤ (x4 : Int32))) → (¬ (((Int32.toUInt32 x3 >>> (Int32.toUInt32 x4 &&& Int32.toUInt32 31)).toInt32) = (0 : Int32))) → ((((Int32.toUInt32 x3 >>> (Int32.toUInt32 x4 &&& Int32.toUInt32 31)).toInt32) &&& 1) = (0 : Int32)) → J l mX10_findWay (jZ0 3 G (pI φ)) G 0 0 20 [.ref 12, .int x1, .ref y, .int x3, .int (x4 + 1)] [] μ) 
    (e5 : (¬ ((μ.1 t 1) ≤ (x4 : Int32))) → (¬ (((Int32.toUInt32 x3 >>> (Int32.toUInt32 x4 &&& Int32.toUInt32 31)).toInt32) = (0 : Int32))) → (¬ ((((Int32.toUInt32 x3 >>> (Int32.toUInt32 x4 &&& Int32.toUInt32 31)).toInt32) &&& 1) = (0 : Int32))) → ((((μ.1 12 4) >>> (x4 &&& 31)) &&& 1) = (0 : Int32)) → jC0 l mX10_priceOf 2 G [.ref 12, .int x1, .int x4] μ (pI ψ5)) 
    (k5 : (¬ ((μ.1 t 1) ≤ (x4 : Int32))) → (¬ (((Int32.toUInt32 x3 >>> (Int32.toUInt32 x4 &&& Int32.toUInt32 31)).toInt32) = (0 : Int32))) → (¬ ((((Int32.toUInt32 x3 >>> (Int32.toUInt32 x4 &&& Int32.toUInt32 31)).toInt32) &&& 1) = (0 : Int32))) → ((((μ.1 12 4) >>> (x4 &&& 31)) &&& 1) = (0 : Int32)) → ∀ v μ', ψ5 v μ' → J l mX10_findWay (jZ0 3 G (pI φ)) G 0 0 75 [.ref 12, .int x1, .ref y, .int x3, .int x4] [.int v, .int x4, .ref y] μ') 
    (e6 : (¬ ((μ.1 t 1) ≤ (x4 : Int32))) → (¬ (((Int32.toUInt32 x3 >>> (Int32.toUInt32 x4 &&& Int32.toUInt32 31)).toInt32) = (0 : Int32))) → (¬ ((((Int32.toUInt32 x3 >>> (Int32.toUInt32 x4 &&& Int32.toUInt32 31)).toInt32) &&& 1) = (0 : Int32))) → (¬ ((((μ.1 12 4) >>> (x4 &&& 31)) &&& 1) = (0 : Int32))) → jC0 l mX9_setPrice 0 G [.ref y, .int x4, .int 1000000] μ (pV ψ6)) 
    (k6 : (¬ ((μ.1 t 1) ≤ (x4 : Int32))) → (¬ (((Int32.toUInt32 x3 >>> (Int32.toUInt32 x4 &&& Int32.toUInt32 31)).toInt32) = (0 : Int32))) → (¬ ((((Int32.toUInt32 x3 >>> (Int32.toUInt32 x4 &&& Int32.toUInt32 31)).toInt32) &&& 1) = (0 : Int32))) → (¬ ((((μ.1 12 4) >>> (x4 &&& 31)) &&& 1) = (0 : Int32))) → ∀ μ', ψ6 μ' → J l mX10_findWay (jZ0 3 G (pI φ)) G 0 0 78 [.ref 12, .int x1, .ref y, .int x3, .int x4] [] μ') :
    J l mX10_findWay (jZ0 3 G (pI φ)) G 0 0 20 [.ref 12, .int x1, .ref y, .int x3, .int x4] [] μ := by
  refine j_iload dX10_findWay_20 rfl rfl ?_
  refine j_aload_n dX10_findWay_22 rfl rfl ?_
  refine j_getR (ci := 10) (N := 11) (f := 0) (T := TX10) t dX10_findWay_23 rfl (hG 12 (15, 11) rfl) rfl (by decide) fl_X10_30 rfl q12_0 ?_
  refine j_getI (ci := 8) (N := 20) (f := 1) (T := TX8) dX10_findWay_26 rfl (ht.1 0 (13, 20) rfl) rfl (by decide) fl_X10_90 rfl ?_
  refine j_icmp_ge 84 dX10_findWay_29 rfl (by decide) (fun c0 => ?_) (fun c0 => ?_)
  · skip
    refine j_aload_n dX10_findWay_84 rfl rfl ?_
    refine j_getI (ci := 9) (N := 9) (f := 0) (T := TX9) dX10_findWay_85 rfl (hy.1 0 (14, 9) rfl) rfl (by decide) fl_X10_40 rfl ?_
    refine j_if_ne 100 dX10_findWay_88 rfl (by decide) (fun c1 => ?_) (fun c1 => ?_)
    · skip
      refine j_aload_n dX10_findWay_100 rfl rfl ?_
      refine j_cV (as := []) (rest := []) dX10_findWay_101 rfl vw_X10_106 (hy.1 0 (14, 9) rfl) rfl ⟨Nat.le_of_ble_eq_true rfl, Nat.le_of_ble_eq_true rfl⟩ rfl rfl (fun _ _ => Nat.le_of_ble_eq_true rfl) (e0 c0 c1) (fun r μ' hr => ?_)
      obtain ⟨v, rfl, hr⟩ := hr
      refine j_forget (ls' := [.null, .null, .null, .null, .null]) ⟨Or.inl rfl, Or.inl rfl, Or.inl rfl, Or.inl rfl, Or.inl rfl, trivial⟩ ?_
      exact k0 c0 c1 v μ' hr
    · skip
      refine j_aload_n dX10_findWay_91 rfl rfl ?_
      refine j_aload_n dX10_findWay_92 rfl rfl ?_
      refine j_getR (ci := 10) (N := 11) (f := 0) (T := TX10) t dX10_findWay_93 rfl (hG 12 (15, 11) rfl) rfl (by decide) fl_X10_30 rfl q12_0 ?_
      refine j_iload_n dX10_findWay_96 rfl rfl ?_
      refine j_cV (as := [.ref t, .int x1]) (rest := []) dX10_findWay_97 rfl vw_X10_102 (hy.1 0 (14, 9) rfl) rfl ⟨Nat.le_of_ble_eq_true rfl, Nat.le_of_ble_eq_true rfl⟩ rfl rfl (fun _ _ => Nat.le_of_ble_eq_true rfl) (e1 c0 c1) (fun r μ' hr => ?_)
      obtain ⟨rfl, hr⟩ := hr
      refine j_forget (ls' := [.null, .null, .ref y, .null, .null]) ⟨Or.inl rfl, Or.inl rfl, Or.inr rfl, Or.inl rfl, Or.inl rfl, trivial⟩ ?_
      exact k1 c0 c1 μ' hr
  · skip
    refine j_iload_n dX10_findWay_32 rfl rfl ?_
    refine j_iload dX10_findWay_33 rfl rfl ?_
    refine j_iushr dX10_findWay_35 rfl ?_
    refine j_if_eq 84 dX10_findWay_36 rfl (by decide) (fun c2 => ?_) (fun c2 => ?_)
    · skip
      refine j_aload_n dX10_findWay_84 rfl rfl ?_
      refine j_getI (ci := 9) (N := 9) (f := 0) (T := TX9) dX10_findWay_85 rfl (hy.1 0 (14, 9) rfl) rfl (by decide) fl_X10_40 rfl ?_
      refine j_if_ne 100 dX10_findWay_88 rfl (by decide) (fun c3 => ?_) (fun c3 => ?_)
      · skip
        refine j_aload_n dX10_findWay_100 rfl rfl ?_
        refine j_cV (as := []) (rest := []) dX10_findWay_101 rfl vw_X10_106 (hy.1 0 (14, 9) rfl) rfl ⟨Nat.le_of_ble_eq_true rfl, Nat.le_of_ble_eq_true rfl⟩ rfl rfl (fun _ _ => Nat.le_of_ble_eq_true rfl) (e2 c0 c2 c3) (fun r μ' hr => ?_)
        obtain ⟨v, rfl, hr⟩ := hr
        refine j_forget (ls' := [.null, .null, .null, .null, .null]) ⟨Or.inl rfl, Or.inl rfl, Or.inl rfl, Or.inl rfl, Or.inl rfl, trivial⟩ ?_
        exact k2 c0 c2 c3 v μ' hr
      · skip
        refine j_aload_n dX10_findWay_91 rfl rfl ?_
        refine j_aload_n dX10_findWay_92 rfl rfl ?_
        refine j_getR (ci := 10) (N := 11) (f := 0) (T := TX10) t dX10_findWay_93 rfl (hG 12 (15, 11) rfl) rfl (by decide) fl_X10_30 rfl q12_0 ?_
        refine j_iload_n dX10_findWay_96 rfl rfl ?_
        refine j_cV (as := [.ref t, .int x1]) (rest := []) dX10_findWay_97 rfl vw_X10_102 (hy.1 0 (14, 9) rfl) rfl ⟨Nat.le_of_ble_eq_true rfl, Nat.le_of_ble_eq_true rfl⟩ rfl rfl (fun _ _ => Nat.le_of_ble_eq_true rfl) (e3 c0 c2 c3) (fun r μ' hr => ?_)
        obtain ⟨rfl, hr⟩ := hr
        refine j_forget (ls' := [.null, .null, .ref y, .null, .null]) ⟨Or.inl rfl, Or.inl rfl, Or.inr rfl, Or.inl rfl, Or.inl rfl, trivial⟩ ?_
        exact k3 c0 c2 c3 μ' hr
    · skip
      refine j_iload_n dX10_findWay_39 rfl rfl ?_
      refine j_iload dX10_findWay_40 rfl rfl ?_
      refine j_iushr dX10_findWay_42 rfl ?_
      refine j_iconst 1 dX10_findWay_43 rfl (by decide) ?_
      refine j_iand dX10_findWay_44 rfl ?_
      refine j_if_eq 78 dX10_findWay_45 rfl (by decide) (fun c4 => ?_) (fun c4 => ?_)
      · skip
        refine j_iinc (x4 + 1) (ls' := [.ref 12, .int x1, .ref y, .int x3, .int (x4 + 1)]) dX10_findWay_78 rfl rfl rfl (Nat.le_of_ble_eq_true rfl) rfl ?_
        refine j_goto 20 dX10_findWay_81 (by decide) ?_
        exact k4 c0 c2 c4
      · skip
        refine j_aload_n dX10_findWay_48 rfl rfl ?_
        refine j_iload dX10_findWay_49 rfl rfl ?_
        refine j_aload_n dX10_findWay_51 rfl rfl ?_
        refine j_getI (ci := 10) (N := 11) (f := 4) (T := TX10) dX10_findWay_52 rfl (hG 12 (15, 11) rfl) rfl (by decide) fl_X10_57 rfl ?_
        refine j_iload dX10_findWay_55 rfl rfl ?_
        refine j_ishr dX10_findWay_57 rfl ?_
        refine j_iconst 1 dX10_findWay_58 rfl (by decide) ?_
        refine j_iand dX10_findWay_59 rfl ?_
        refine j_if_eq 68 dX10_findWay_60 rfl (by decide) (fun c5 => ?_) (fun c5 => ?_)
        · skip
          refine j_aload_n dX10_findWay_68 rfl rfl ?_
          refine j_iload_n dX10_findWay_69 rfl rfl ?_
          refine j_iload dX10_findWay_70 rfl rfl ?_
          refine j_cV (as := [.int x1, .int x4]) (rest := [.int x4, .ref y]) dX10_findWay_72 rfl vw_X10_94 (hG 12 (15, 11) rfl) rfl ⟨Nat.le_of_ble_eq_true rfl, Nat.le_of_ble_eq_true rfl⟩ rfl rfl (fun _ _ => Nat.le_of_ble_eq_true rfl) (e5 c0 c2 c4 c5) (fun r μ' hr => ?_)
          obtain ⟨v, rfl, hr⟩ := hr
          exact k5 c0 c2 c4 c5 v μ' hr
        · skip
          refine j_ldc 1000000 dX10_findWay_63 rfl ck_X10_93 ?_
          refine j_goto 75 dX10_findWay_65 (by decide) ?_
          refine j_cV (as := [.int x4, .int 1000000]) (rest := []) dX10_findWay_75 rfl vw_X10_98 (hy.1 0 (14, 9) rfl) rfl ⟨Nat.le_of_ble_eq_true rfl, Nat.le_of_ble_eq_true rfl⟩ rfl rfl (fun _ _ => Nat.le_of_ble_eq_true rfl) (e6 c0 c2 c4 c5) (fun r μ' hr => ?_)
          obtain ⟨rfl, hr⟩ := hr
          exact k6 c0 c2 c4 c5 μ' hr
theorem b_X10_findWay_75 {l : Launch} {G : jG} {μ : jM} {φ : Int32 → jM → Prop} {x1 x3 x4 z0 z1 : Int32} {ψ0 : jM → Prop} {y : Nat} (hG : gGG G) (hP : gPP μ) (hy : tO gWay pWay G μ y) 
    (e0 : jC0 l mX9_setPrice 0 G [.ref y, .int z1, .int z0] μ (pV ψ0)) 
    (k0 : ∀ μ', ψ0 μ' → J l mX10_findWay (jZ0 3 G (pI φ)) G 0 0 78 [.ref 12, .int x1, .ref y, .int x3, .int x4] [] μ') :
    J l mX10_findWay (jZ0 3 G (pI φ)) G 0 0 75 [.ref 12, .int x1, .ref y, .int x3, .int x4] [.int z0, .int z1, .ref y] μ := by
  refine j_cV (as := [.int z1, .int z0]) (rest := []) dX10_findWay_75 rfl vw_X10_98 (hy.1 0 (14, 9) rfl) rfl ⟨Nat.le_of_ble_eq_true rfl, Nat.le_of_ble_eq_true rfl⟩ rfl rfl (fun _ _ => Nat.le_of_ble_eq_true rfl) (e0 ) (fun r μ' hr => ?_)
  obtain ⟨rfl, hr⟩ := hr
  exact k0  μ' hr
theorem b_X10_findWay_78 {l : Launch} {G : jG} {μ : jM} {φ : Int32 → jM → Prop} {x1 x3 x4 : Int32} {y : Nat} (hG : gGG G) (hP : gPP μ) (hy : tO gWay pWay G μ y) 
    (k0 : J l mX10_findWay (jZ0 3 G (pI φ)) G 0 0 20 [.ref 12, .int x1, .ref y, .int x3, .int (x4 + 1)] [] μ) :
    J l mX10_findWay (jZ0 3 G (pI φ)) G 0 0 78 [.ref 12, .int x1, .ref y, .int x3, .int x4] [] μ := by
  refine j_iinc (x4 + 1) (ls' := [.ref 12, .int x1, .ref y, .int x3, .int (x4 + 1)]) dX10_findWay_78 rfl rfl rfl (Nat.le_of_ble_eq_true rfl) rfl ?_
  refine j_goto 20 dX10_findWay_81 (by decide) ?_
  exact k0 
theorem b_X10_findWay_100 {l : Launch} {G : jG} {μ : jM} {φ : Int32 → jM → Prop} {ψ0 : Int32 → jM → Prop} {y : Nat} (hG : gGG G) (hP : gPP μ) (hy : tO gWay pWay G μ y) 
    (e0 : jC0 l mX9_isThere 0 G [.ref y] μ (pI ψ0)) 
    (k0 : ∀ v μ', ψ0 v μ' → J l mX10_findWay (jZ0 3 G (pI φ)) G 0 0 104 [.null, .null, .null, .null, .null] [.int v] μ') :
    J l mX10_findWay (jZ0 3 G (pI φ)) G 0 0 100 [.null, .null, .ref y, .null, .null] [] μ := by
  refine j_aload_n dX10_findWay_100 rfl rfl ?_
  refine j_cV (as := []) (rest := []) dX10_findWay_101 rfl vw_X10_106 (hy.1 0 (14, 9) rfl) rfl ⟨Nat.le_of_ble_eq_true rfl, Nat.le_of_ble_eq_true rfl⟩ rfl rfl (fun _ _ => Nat.le_of_ble_eq_true rfl) (e0 ) (fun r μ' hr => ?_)
  obtain ⟨v, rfl, hr⟩ := hr
  refine j_forget (ls' := [.null, .null, .null, .null, .null]) ⟨Or.inr rfl, Or.inr rfl, Or.inl rfl, Or.inr rfl, Or.inr rfl, trivial⟩ ?_
  exact k0  v μ' hr
theorem b_X10_findWay_104 {l : Launch} {G : jG} {μ : jM} {φ : Int32 → jM → Prop} {z0 : Int32} (hG : gGG G) (hP : gPP μ) 
    (k0 : φ z0 μ) 
    (o0 : z0 = (0 : Int32) ∨ z0 = (1 : Int32)) :
    J l mX10_findWay (jZ0 3 G (pI φ)) G 0 0 104 [.null, .null, .null, .null, .null] [.int z0] μ := by
  exact j_zret dX10_findWay_104 rfl o0 (k0 )
theorem b_X10_priceOf_0 {l : Launch} {G : jG} {μ : jM} {φ : Int32 → jM → Prop} {x1 x2 : Int32} {ψ1 : Int32 → jM → Prop} {ψ2 : Int32 → jM → Prop} {r t y : Nat} (hG : gGG G) (hP : gPP μ) (hgr : G[r]? = some (0, 71)) (ht : tO gTold pTold G μ t) (hy : tO gWay pWay G μ y) (q12_0 : μ.2.2 12 0 = some t) (q12_5 : μ.2.2 12 5 = some r) 
    (o0 : vp_in x2 12) 
    (o1 : ((((μ.1 r 4) >>> (x2 &&& 31)) &&& 1) = (0 : Int32)) → vp_in x1 7) 
    (o2 : ((((μ.1 r 4) >>> (x2 &&& 31)) &&& 1) = (0 : Int32)) → μ.2.2 13 (Int32.toNatClampNeg x1) = some y) 
    (k0 : ((((μ.1 r 4) >>> (x2 &&& 31)) &&& 1) = (0 : Int32)) → (((((wI μ (y + 2) (Int32.toNatClampNeg x2) 0).1 t 6) >>> (x2 &&& 31)) &&& 1) = (0 : Int32)) → φ ((μ.1 (t + 3) (Int32.toNatClampNeg x2)) + 0) (wI μ (y + 2) (Int32.toNatClampNeg x2) 0)) 
    (e1 : ((((μ.1 r 4) >>> (x2 &&& 31)) &&& 1) = (0 : Int32)) → (¬ (((((wI μ (y + 2) (Int32.toNatClampNeg x2) 0).1 t 6) >>> (x2 &&& 31)) &&& 1) = (0 : Int32))) → jC0 l mX10_said 1 G [.ref 12, .ref (t + 13), .int x1, .int x2, .int 99] (wI μ (y + 2) (Int32.toNatClampNeg x2) 0) (pI ψ1)) 
    (k1 : ((((μ.1 r 4) >>> (x2 &&& 31)) &&& 1) = (0 : Int32)) → (¬ (((((wI μ (y + 2) (Int32.toNatClampNeg x2) 0).1 t 6) >>> (x2 &&& 31)) &&& 1) = (0 : Int32))) → ∀ v μ', ψ1 v μ' → J l mX10_priceOf (jZ0 2 G (pI φ)) G 0 0 86 [.null, .null, .null, .null, .int 0] [.int v, .int (μ.1 (t + 3) (Int32.toNatClampNeg x2))] μ') 
    (e2 : (¬ ((((μ.1 r 4) >>> (x2 &&& 31)) &&& 1) = (0 : Int32))) → jC0 l mX10_said 1 G [.ref 12, .ref (t + 9), .int x1, .int x2, .int 99] μ (pI ψ2)) 
    (k2 : (¬ ((((μ.1 r 4) >>> (x2 &&& 31)) &&& 1) = (0 : Int32))) → ∀ v μ', ψ2 v μ' → J l mX10_priceOf (jZ0 2 G (pI φ)) G 0 0 41 [.ref 12, .int x1, .int x2, .int (μ.1 (t + 3) (Int32.toNatClampNeg x2)), .null] [.int v] μ') :
    J l mX10_priceOf (jZ0 2 G (pI φ)) G 0 0 0 [.ref 12, .int x1, .int x2, .null, .null] [] μ := by
  refine j_aload_n dX10_priceOf_0 rfl rfl ?_
  refine j_getR (ci := 10) (N := 11) (f := 0) (T := TX10) t dX10_priceOf_1 rfl (hG 12 (15, 11) rfl) rfl (by decide) fl_X10_30 rfl q12_0 ?_
  refine j_getR (ci := 8) (N := 20) (f := 5) (T := TX8) (t + 3) dX10_priceOf_4 rfl (ht.1 0 (13, 20) rfl) rfl (by decide) fl_X10_110 rfl (ht.2 0 5 3 rfl) ?_
  refine j_iload_n dX10_priceOf_7 rfl rfl ?_
  refine j_iald' (j := (Int32.toNatClampNeg x2)) dX10_priceOf_8 rfl (ht.1 3 (0, 12) rfl) o0 rfl ?_
  refine j_istore_n (ls' := [.ref 12, .int x1, .int x2, .int (μ.1 (t + 3) (Int32.toNatClampNeg x2)), .null]) dX10_priceOf_9 rfl rfl (Nat.le_of_ble_eq_true rfl) rfl ?_
  refine j_iconst 0 dX10_priceOf_10 rfl (by decide) ?_
  refine j_istore (ls' := [.ref 12, .int x1, .int x2, .int (μ.1 (t + 3) (Int32.toNatClampNeg x2)), .int 0]) dX10_priceOf_11 rfl (Nat.le_of_ble_eq_true rfl) rfl ?_
  refine j_aload_n dX10_priceOf_13 rfl rfl ?_
  refine j_getR (ci := 10) (N := 11) (f := 5) (T := TX10) r dX10_priceOf_14 rfl (hG 12 (15, 11) rfl) rfl (by decide) fl_X10_49 rfl q12_5 ?_
  refine j_iconst 4 dX10_priceOf_17 rfl (by decide) ?_
  refine j_iald' (j := 4) dX10_priceOf_18 rfl hgr (vpK (by decide)) (by decide) ?_
  refine j_iload_n dX10_priceOf_19 rfl rfl ?_
  refine j_ishr dX10_priceOf_20 rfl ?_
  refine j_iconst 1 dX10_priceOf_21 rfl (by decide) ?_
  refine j_iand dX10_priceOf_22 rfl ?_
  refine j_if_eq 43 dX10_priceOf_23 rfl (by decide) (fun c0 => ?_) (fun c0 => ?_)
  · skip
    refine j_aload_n dX10_priceOf_43 rfl rfl ?_
    refine j_getR (ci := 10) (N := 11) (f := 3) (T := TX10) 13 dX10_priceOf_44 rfl (hG 12 (15, 11) rfl) rfl (by decide) fl_X10_11 rfl (hP 12 3 13 rfl) ?_
    refine j_iload_n dX10_priceOf_47 rfl rfl ?_
    refine j_aald' (j := (Int32.toNatClampNeg x1)) dX10_priceOf_48 rfl (hG 13 (4, 7) rfl) (o1 c0) rfl (o2 c0) ?_
    refine j_getR (ci := 9) (N := 9) (f := 3) (T := TX9) (y + 2) dX10_priceOf_49 rfl (hy.1 0 (14, 9) rfl) rfl (by decide) fl_X10_121 rfl (hy.2 0 3 2 rfl) ?_
    refine j_iload_n dX10_priceOf_52 rfl rfl ?_
    refine j_iload dX10_priceOf_53 rfl rfl ?_
    refine j_iast' (j := (Int32.toNatClampNeg x2)) dX10_priceOf_55 rfl (hy.1 2 (0, 12) rfl) o0 rfl ?_
    refine j_aload_n dX10_priceOf_56 rfl rfl ?_
    refine j_getR (ci := 10) (N := 11) (f := 0) (T := TX10) t dX10_priceOf_57 rfl (hG 12 (15, 11) rfl) rfl (by decide) fl_X10_30 rfl q12_0 ?_
    refine j_getI (ci := 8) (N := 20) (f := 6) (T := TX8) dX10_priceOf_60 rfl (ht.1 0 (13, 20) rfl) rfl (by decide) fl_X10_124 rfl ?_
    refine j_iload_n dX10_priceOf_63 rfl rfl ?_
    refine j_ishr dX10_priceOf_64 rfl ?_
    refine j_iconst 1 dX10_priceOf_65 rfl (by decide) ?_
    refine j_iand dX10_priceOf_66 rfl ?_
    refine j_if_eq 88 dX10_priceOf_67 rfl (by decide) (fun c1 => ?_) (fun c1 => ?_)
    · skip
      refine j_iload_n dX10_priceOf_88 rfl rfl ?_
      refine j_iload dX10_priceOf_89 rfl rfl ?_
      refine j_iadd dX10_priceOf_91 rfl ?_
      exact j_iret dX10_priceOf_92 rfl (k0 c0 c1)
    · skip
      refine j_iload_n dX10_priceOf_70 rfl rfl ?_
      refine j_aload_n dX10_priceOf_71 rfl rfl ?_
      refine j_aload_n dX10_priceOf_72 rfl rfl ?_
      refine j_getR (ci := 10) (N := 11) (f := 0) (T := TX10) t dX10_priceOf_73 rfl (hG 12 (15, 11) rfl) rfl (by decide) fl_X10_30 rfl q12_0 ?_
      refine j_getR (ci := 8) (N := 20) (f := 14) (T := TX8) (t + 13) dX10_priceOf_76 rfl (ht.1 0 (13, 20) rfl) rfl (by decide) fl_X10_127 rfl (ht.2 0 14 13 rfl) ?_
      refine j_iload_n dX10_priceOf_79 rfl rfl ?_
      refine j_iload_n dX10_priceOf_80 rfl rfl ?_
      refine j_bipush 99 dX10_priceOf_81 rfl (by decide) ?_
      refine j_cV (as := [.ref (t + 13), .int x1, .int x2, .int 99]) (rest := [.int (μ.1 (t + 3) (Int32.toNatClampNeg x2))]) dX10_priceOf_83 rfl vw_X10_117 (hG 12 (15, 11) rfl) rfl ⟨Nat.le_of_ble_eq_true rfl, Nat.le_of_ble_eq_true rfl⟩ rfl rfl (fun _ _ => Nat.le_of_ble_eq_true rfl) (e1 c0 c1) (fun r μ' hr => ?_)
      obtain ⟨v, rfl, hr⟩ := hr
      refine j_forget (ls' := [.null, .null, .null, .null, .int 0]) ⟨Or.inl rfl, Or.inl rfl, Or.inl rfl, Or.inl rfl, Or.inr rfl, trivial⟩ ?_
      exact k1 c0 c1 v μ' hr
  · skip
    refine j_aload_n dX10_priceOf_26 rfl rfl ?_
    refine j_aload_n dX10_priceOf_27 rfl rfl ?_
    refine j_getR (ci := 10) (N := 11) (f := 0) (T := TX10) t dX10_priceOf_28 rfl (hG 12 (15, 11) rfl) rfl (by decide) fl_X10_30 rfl q12_0 ?_
    refine j_getR (ci := 8) (N := 20) (f := 13) (T := TX8) (t + 9) dX10_priceOf_31 rfl (ht.1 0 (13, 20) rfl) rfl (by decide) fl_X10_113 rfl (ht.2 0 13 9 rfl) ?_
    refine j_iload_n dX10_priceOf_34 rfl rfl ?_
    refine j_iload_n dX10_priceOf_35 rfl rfl ?_
    refine j_bipush 99 dX10_priceOf_36 rfl (by decide) ?_
    refine j_cV (as := [.ref (t + 9), .int x1, .int x2, .int 99]) (rest := []) dX10_priceOf_38 rfl vw_X10_117 (hG 12 (15, 11) rfl) rfl ⟨Nat.le_of_ble_eq_true rfl, Nat.le_of_ble_eq_true rfl⟩ rfl rfl (fun _ _ => Nat.le_of_ble_eq_true rfl) (e2 c0) (fun r μ' hr => ?_)
    obtain ⟨v, rfl, hr⟩ := hr
    refine j_forget (ls' := [.ref 12, .int x1, .int x2, .int (μ.1 (t + 3) (Int32.toNatClampNeg x2)), .null]) ⟨Or.inr rfl, Or.inr rfl, Or.inr rfl, Or.inr rfl, Or.inl rfl, trivial⟩ ?_
    exact k2 c0 v μ' hr
theorem b_X10_priceOf_41 {l : Launch} {G : jG} {μ : jM} {φ : Int32 → jM → Prop} {x1 x2 x3 z0 : Int32} {ψ1 : Int32 → jM → Prop} {t y : Nat} (hG : gGG G) (hP : gPP μ) (ht : tO gTold pTold G μ t) (hy : tO gWay pWay G μ y) (q12_0 : μ.2.2 12 0 = some t) 
    (o0 : vp_in x1 7) 
    (o1 : μ.2.2 13 (Int32.toNatClampNeg x1) = some y) 
    (o2 : vp_in x2 12) 
    (k0 : (((((wI μ (y + 2) (Int32.toNatClampNeg x2) z0).1 t 6) >>> (x2 &&& 31)) &&& 1) = (0 : Int32)) → φ (x3 + z0) (wI μ (y + 2) (Int32.toNatClampNeg x2) z0)) 
    (e1 : (¬ (((((wI μ (y + 2) (Int32.toNatClampNeg x2) z0).1 t 6) >>> (x2 &&& 31)) &&& 1) = (0 : Int32))) → jC0 l mX10_said 1 G [.ref 12, .ref (t + 13), .int x1, .int x2, .int 99] (wI μ (y + 2) (Int32.toNatClampNeg x2) z0) (pI ψ1)) 
    (k1 : (¬ (((((wI μ (y + 2) (Int32.toNatClampNeg x2) z0).1 t 6) >>> (x2 &&& 31)) &&& 1) = (0 : Int32))) → ∀ v μ', ψ1 v μ' → J l mX10_priceOf (jZ0 2 G (pI φ)) G 0 0 86 [.null, .null, .null, .null, .int z0] [.int v, .int x3] μ') :
    J l mX10_priceOf (jZ0 2 G (pI φ)) G 0 0 41 [.ref 12, .int x1, .int x2, .int x3, .null] [.int z0] μ := by
  refine j_istore (ls' := [.ref 12, .int x1, .int x2, .int x3, .int z0]) dX10_priceOf_41 rfl (Nat.le_of_ble_eq_true rfl) rfl ?_
  refine j_aload_n dX10_priceOf_43 rfl rfl ?_
  refine j_getR (ci := 10) (N := 11) (f := 3) (T := TX10) 13 dX10_priceOf_44 rfl (hG 12 (15, 11) rfl) rfl (by decide) fl_X10_11 rfl (hP 12 3 13 rfl) ?_
  refine j_iload_n dX10_priceOf_47 rfl rfl ?_
  refine j_aald' (j := (Int32.toNatClampNeg x1)) dX10_priceOf_48 rfl (hG 13 (4, 7) rfl) o0 rfl o1 ?_
  refine j_getR (ci := 9) (N := 9) (f := 3) (T := TX9) (y + 2) dX10_priceOf_49 rfl (hy.1 0 (14, 9) rfl) rfl (by decide) fl_X10_121 rfl (hy.2 0 3 2 rfl) ?_
  refine j_iload_n dX10_priceOf_52 rfl rfl ?_
  refine j_iload dX10_priceOf_53 rfl rfl ?_
  refine j_iast' (j := (Int32.toNatClampNeg x2)) dX10_priceOf_55 rfl (hy.1 2 (0, 12) rfl) o2 rfl ?_
  refine j_aload_n dX10_priceOf_56 rfl rfl ?_
  refine j_getR (ci := 10) (N := 11) (f := 0) (T := TX10) t dX10_priceOf_57 rfl (hG 12 (15, 11) rfl) rfl (by decide) fl_X10_30 rfl q12_0 ?_
  refine j_getI (ci := 8) (N := 20) (f := 6) (T := TX8) dX10_priceOf_60 rfl (ht.1 0 (13, 20) rfl) rfl (by decide) fl_X10_124 rfl ?_
  refine j_iload_n dX10_priceOf_63 rfl rfl ?_
  refine j_ishr dX10_priceOf_64 rfl ?_
  refine j_iconst 1 dX10_priceOf_65 rfl (by decide) ?_
  refine j_iand dX10_priceOf_66 rfl ?_
  refine j_if_eq 88 dX10_priceOf_67 rfl (by decide) (fun c0 => ?_) (fun c0 => ?_)
  · skip
    refine j_iload_n dX10_priceOf_88 rfl rfl ?_
    refine j_iload dX10_priceOf_89 rfl rfl ?_
    refine j_iadd dX10_priceOf_91 rfl ?_
    exact j_iret dX10_priceOf_92 rfl (k0 c0)
  · skip
    refine j_iload_n dX10_priceOf_70 rfl rfl ?_
    refine j_aload_n dX10_priceOf_71 rfl rfl ?_
    refine j_aload_n dX10_priceOf_72 rfl rfl ?_
    refine j_getR (ci := 10) (N := 11) (f := 0) (T := TX10) t dX10_priceOf_73 rfl (hG 12 (15, 11) rfl) rfl (by decide) fl_X10_30 rfl q12_0 ?_
    refine j_getR (ci := 8) (N := 20) (f := 14) (T := TX8) (t + 13) dX10_priceOf_76 rfl (ht.1 0 (13, 20) rfl) rfl (by decide) fl_X10_127 rfl (ht.2 0 14 13 rfl) ?_
    refine j_iload_n dX10_priceOf_79 rfl rfl ?_
    refine j_iload_n dX10_priceOf_80 rfl rfl ?_
    refine j_bipush 99 dX10_priceOf_81 rfl (by decide) ?_
    refine j_cV (as := [.ref (t + 13), .int x1, .int x2, .int 99]) (rest := [.int x3]) dX10_priceOf_83 rfl vw_X10_117 (hG 12 (15, 11) rfl) rfl ⟨Nat.le_of_ble_eq_true rfl, Nat.le_of_ble_eq_true rfl⟩ rfl rfl (fun _ _ => Nat.le_of_ble_eq_true rfl) (e1 c0) (fun r μ' hr => ?_)
    obtain ⟨v, rfl, hr⟩ := hr
    refine j_forget (ls' := [.null, .null, .null, .null, .int z0]) ⟨Or.inl rfl, Or.inl rfl, Or.inl rfl, Or.inl rfl, Or.inr rfl, trivial⟩ ?_
    exact k1 c0 v μ' hr
theorem b_X10_priceOf_86 {l : Launch} {G : jG} {μ : jM} {φ : Int32 → jM → Prop} {x4 z0 z1 : Int32} (hG : gGG G) (hP : gPP μ) 
    (k0 : φ ((z1 + z0) + x4) μ) :
    J l mX10_priceOf (jZ0 2 G (pI φ)) G 0 0 86 [.null, .null, .null, .null, .int x4] [.int z0, .int z1] μ := by
  refine j_iadd dX10_priceOf_86 rfl ?_
  refine j_istore_n (ls' := [.null, .null, .null, .int (z1 + z0), .int x4]) dX10_priceOf_87 rfl rfl (Nat.le_of_ble_eq_true rfl) rfl ?_
  refine j_iload_n dX10_priceOf_88 rfl rfl ?_
  refine j_iload dX10_priceOf_89 rfl rfl ?_
  refine j_iadd dX10_priceOf_91 rfl ?_
  exact j_iret dX10_priceOf_92 rfl (k0 )
theorem b_X10_hoursOf_0 {l : Launch} {G : jG} {μ : jM} {φ : Int32 → jM → Prop} {y : Nat} (hG : gGG G) (hP : gPP μ) (hy : tO gWay pWay G μ y) 
    (k0 : J l mX10_hoursOf (jZ0 0 G (pI φ)) G 0 0 4 [.ref 12, .ref y, .int 0, .int 0] [] μ) :
    J l mX10_hoursOf (jZ0 0 G (pI φ)) G 0 0 0 [.ref 12, .ref y, .null, .null] [] μ := by
  refine j_iconst 0 dX10_hoursOf_0 rfl (by decide) ?_
  refine j_istore_n (ls' := [.ref 12, .ref y, .int 0, .null]) dX10_hoursOf_1 rfl rfl (Nat.le_of_ble_eq_true rfl) rfl ?_
  refine j_iconst 0 dX10_hoursOf_2 rfl (by decide) ?_
  refine j_istore_n (ls' := [.ref 12, .ref y, .int 0, .int 0]) dX10_hoursOf_3 rfl rfl (Nat.le_of_ble_eq_true rfl) rfl ?_
  exact k0 
theorem b_X10_hoursOf_4 {l : Launch} {G : jG} {μ : jM} {φ : Int32 → jM → Prop} {x2 x3 : Int32} {t y : Nat} (hG : gGG G) (hP : gPP μ) (ht : tO gTold pTold G μ t) (hy : tO gWay pWay G μ y) (q12_0 : μ.2.2 12 0 = some t) 
    (k0 : ((μ.1 y 5) ≤ (x3 : Int32)) → φ x2 μ) 
    (o0 : (¬ ((μ.1 y 5) ≤ (x3 : Int32))) → vp_in x3 8) 
    (o1 : (¬ ((μ.1 y 5) ≤ (x3 : Int32))) → vp_in (μ.1 (y + 3) (Int32.toNatClampNeg x3)) 12) 
    (k1 : (¬ ((μ.1 y 5) ≤ (x3 : Int32))) → J l mX10_hoursOf (jZ0 0 G (pI φ)) G 0 0 4 [.ref 12, .ref y, .int (x2 + (μ.1 (t + 3) (Int32.toNatClampNeg (μ.1 (y + 3) (Int32.toNatClampNeg x3))))), .int (x3 + 1)] [] μ) :
    J l mX10_hoursOf (jZ0 0 G (pI φ)) G 0 0 4 [.ref 12, .ref y, .int x2, .int x3] [] μ := by
  refine j_iload_n dX10_hoursOf_4 rfl rfl ?_
  refine j_aload_n dX10_hoursOf_5 rfl rfl ?_
  refine j_getI (ci := 9) (N := 9) (f := 5) (T := TX9) dX10_hoursOf_6 rfl (hy.1 0 (14, 9) rfl) rfl (by decide) fl_X10_130 rfl ?_
  refine j_icmp_ge 35 dX10_hoursOf_9 rfl (by decide) (fun c0 => ?_) (fun c0 => ?_)
  · skip
    refine j_iload_n dX10_hoursOf_35 rfl rfl ?_
    exact j_iret dX10_hoursOf_36 rfl (k0 c0)
  · skip
    refine j_iload_n dX10_hoursOf_12 rfl rfl ?_
    refine j_aload_n dX10_hoursOf_13 rfl rfl ?_
    refine j_getR (ci := 10) (N := 11) (f := 0) (T := TX10) t dX10_hoursOf_14 rfl (hG 12 (15, 11) rfl) rfl (by decide) fl_X10_30 rfl q12_0 ?_
    refine j_getR (ci := 8) (N := 20) (f := 5) (T := TX8) (t + 3) dX10_hoursOf_17 rfl (ht.1 0 (13, 20) rfl) rfl (by decide) fl_X10_110 rfl (ht.2 0 5 3 rfl) ?_
    refine j_aload_n dX10_hoursOf_20 rfl rfl ?_
    refine j_getR (ci := 9) (N := 9) (f := 4) (T := TX9) (y + 3) dX10_hoursOf_21 rfl (hy.1 0 (14, 9) rfl) rfl (by decide) fl_X10_133 rfl (hy.2 0 4 3 rfl) ?_
    refine j_iload_n dX10_hoursOf_24 rfl rfl ?_
    refine j_iald' (j := (Int32.toNatClampNeg x3)) dX10_hoursOf_25 rfl (hy.1 3 (0, 8) rfl) (o0 c0) rfl ?_
    refine j_iald' (j := (Int32.toNatClampNeg (μ.1 (y + 3) (Int32.toNatClampNeg x3)))) dX10_hoursOf_26 rfl (ht.1 3 (0, 12) rfl) (o1 c0) rfl ?_
    refine j_iadd dX10_hoursOf_27 rfl ?_
    refine j_istore_n (ls' := [.ref 12, .ref y, .int (x2 + (μ.1 (t + 3) (Int32.toNatClampNeg (μ.1 (y + 3) (Int32.toNatClampNeg x3))))), .int x3]) dX10_hoursOf_28 rfl rfl (Nat.le_of_ble_eq_true rfl) rfl ?_
    refine j_iinc (x3 + 1) (ls' := [.ref 12, .ref y, .int (x2 + (μ.1 (t + 3) (Int32.toNatClampNeg (μ.1 (y + 3) (Int32.toNatClampNeg x3))))), .int (x3 + 1)]) dX10_hoursOf_29 rfl rfl rfl (Nat.le_of_ble_eq_true rfl) rfl ?_
    refine j_goto 4 dX10_hoursOf_32 (by decide) ?_
    exact k1 c0
theorem b_X10_paidOn_0 {l : Launch} {G : jG} {μ : jM} {φ : Int32 → jM → Prop} {x2 : Int32} {y : Nat} (hG : gGG G) (hP : gPP μ) (hy : tO gWay pWay G μ y) 
    (k0 : J l mX10_paidOn (jZ0 1 G (pI φ)) G 0 0 5 [.null, .ref y, .int x2, .int 0, .int 0] [] μ) :
    J l mX10_paidOn (jZ0 1 G (pI φ)) G 0 0 0 [.ref 12, .ref y, .int x2, .null, .null] [] μ := by
  refine j_iconst 0 dX10_paidOn_0 rfl (by decide) ?_
  refine j_istore_n (ls' := [.ref 12, .ref y, .int x2, .int 0, .null]) dX10_paidOn_1 rfl rfl (Nat.le_of_ble_eq_true rfl) rfl ?_
  refine j_iconst 0 dX10_paidOn_2 rfl (by decide) ?_
  refine j_istore (ls' := [.ref 12, .ref y, .int x2, .int 0, .int 0]) dX10_paidOn_3 rfl (Nat.le_of_ble_eq_true rfl) rfl ?_
  refine j_forget (ls' := [.null, .ref y, .int x2, .int 0, .int 0]) ⟨Or.inl rfl, Or.inr rfl, Or.inr rfl, Or.inr rfl, Or.inr rfl, trivial⟩ ?_
  exact k0 
theorem b_X10_paidOn_5 {l : Launch} {G : jG} {μ : jM} {φ : Int32 → jM → Prop} {x2 x3 x4 : Int32} {y : Nat} (hG : gGG G) (hP : gPP μ) (hy : tO gWay pWay G μ y) 
    (k0 : ((μ.1 y 5) ≤ (x4 : Int32)) → φ (if x2 < x3 then x2 else x3) μ) 
    (o0 : (¬ ((μ.1 y 5) ≤ (x4 : Int32))) → vp_in x4 8) 
    (o1 : (¬ ((μ.1 y 5) ≤ (x4 : Int32))) → vp_in (μ.1 (y + 3) (Int32.toNatClampNeg x4)) 12) 
    (k1 : (¬ ((μ.1 y 5) ≤ (x4 : Int32))) → J l mX10_paidOn (jZ0 1 G (pI φ)) G 0 0 5 [.null, .ref y, .int x2, .int (x3 + (μ.1 (y + 2) (Int32.toNatClampNeg (μ.1 (y + 3) (Int32.toNatClampNeg x4))))), .int (x4 + 1)] [] μ) :
    J l mX10_paidOn (jZ0 1 G (pI φ)) G 0 0 5 [.null, .ref y, .int x2, .int x3, .int x4] [] μ := by
  refine j_iload dX10_paidOn_5 rfl rfl ?_
  refine j_aload_n dX10_paidOn_7 rfl rfl ?_
  refine j_getI (ci := 9) (N := 9) (f := 5) (T := TX9) dX10_paidOn_8 rfl (hy.1 0 (14, 9) rfl) rfl (by decide) fl_X10_130 rfl ?_
  refine j_icmp_ge 35 dX10_paidOn_11 rfl (by decide) (fun c0 => ?_) (fun c0 => ?_)
  · skip
    refine j_iload_n dX10_paidOn_35 rfl rfl ?_
    refine j_iload_n dX10_paidOn_36 rfl rfl ?_
    refine j_min dX10_paidOn_37 rfl vw_X10_135 ⟨Nat.le_of_ble_eq_true rfl, fun _ _ => Nat.le_of_ble_eq_true rfl⟩ ?_
    exact j_iret dX10_paidOn_40 rfl (k0 c0)
  · skip
    refine j_iload_n dX10_paidOn_14 rfl rfl ?_
    refine j_aload_n dX10_paidOn_15 rfl rfl ?_
    refine j_getR (ci := 9) (N := 9) (f := 3) (T := TX9) (y + 2) dX10_paidOn_16 rfl (hy.1 0 (14, 9) rfl) rfl (by decide) fl_X10_121 rfl (hy.2 0 3 2 rfl) ?_
    refine j_aload_n dX10_paidOn_19 rfl rfl ?_
    refine j_getR (ci := 9) (N := 9) (f := 4) (T := TX9) (y + 3) dX10_paidOn_20 rfl (hy.1 0 (14, 9) rfl) rfl (by decide) fl_X10_133 rfl (hy.2 0 4 3 rfl) ?_
    refine j_iload dX10_paidOn_23 rfl rfl ?_
    refine j_iald' (j := (Int32.toNatClampNeg x4)) dX10_paidOn_25 rfl (hy.1 3 (0, 8) rfl) (o0 c0) rfl ?_
    refine j_iald' (j := (Int32.toNatClampNeg (μ.1 (y + 3) (Int32.toNatClampNeg x4)))) dX10_paidOn_26 rfl (hy.1 2 (0, 12) rfl) (o1 c0) rfl ?_
    refine j_iadd dX10_paidOn_27 rfl ?_
    refine j_istore_n (ls' := [.null, .ref y, .int x2, .int (x3 + (μ.1 (y + 2) (Int32.toNatClampNeg (μ.1 (y + 3) (Int32.toNatClampNeg x4))))), .int x4]) dX10_paidOn_28 rfl rfl (Nat.le_of_ble_eq_true rfl) rfl ?_
    refine j_iinc (x4 + 1) (ls' := [.null, .ref y, .int x2, .int (x3 + (μ.1 (y + 2) (Int32.toNatClampNeg (μ.1 (y + 3) (Int32.toNatClampNeg x4))))), .int (x4 + 1)]) dX10_paidOn_29 rfl rfl rfl (Nat.le_of_ble_eq_true rfl) rfl ?_
    refine j_goto 5 dX10_paidOn_32 (by decide) ?_
    exact k1 c0
theorem b_X10_freeGhosts_0 {l : Launch} {G : jG} {μ : jM} {φ : Int32 → jM → Prop} (hG : gGG G) (hP : gPP μ) 
    (k0 : J l mX10_freeGhosts (jZ0 4 G (pI φ)) G 0 0 4 [.ref 12, .int 0, .int 0] [] μ) :
    J l mX10_freeGhosts (jZ0 4 G (pI φ)) G 0 0 0 [.ref 12, .null, .null] [] μ := by
  refine j_iconst 0 dX10_freeGhosts_0 rfl (by decide) ?_
  refine j_istore_n (ls' := [.ref 12, .int 0, .null]) dX10_freeGhosts_1 rfl rfl (Nat.le_of_ble_eq_true rfl) rfl ?_
  refine j_iconst 0 dX10_freeGhosts_2 rfl (by decide) ?_
  refine j_istore_n (ls' := [.ref 12, .int 0, .int 0]) dX10_freeGhosts_3 rfl rfl (Nat.le_of_ble_eq_true rfl) rfl ?_
  exact k0 
theorem b_X10_freeGhosts_4 {l : Launch} {G : jG} {μ : jM} {φ : Int32 → jM → Prop} {x1 x2 : Int32} {ψ1 : Int32 → jM → Prop} {t : Nat} (hG : gGG G) (hP : gPP μ) (ht : tO gTold pTold G μ t) (q12_0 : μ.2.2 12 0 = some t) 
    (k0 : ((μ.1 t 2) ≤ (x2 : Int32)) → φ x1 μ) 
    (e1 : (¬ ((μ.1 t 2) ≤ (x2 : Int32))) → jC0 l mX10_findWay 3 G [.ref 12, .int x2] μ (pI ψ1)) 
    (k1 : (¬ ((μ.1 t 2) ≤ (x2 : Int32))) → ∀ v μ', ψ1 v μ' → J l mX10_freeGhosts (jZ0 4 G (pI φ)) G 0 0 20 [.ref 12, .int x1, .int x2] [.int v] μ') :
    J l mX10_freeGhosts (jZ0 4 G (pI φ)) G 0 0 4 [.ref 12, .int x1, .int x2] [] μ := by
  refine j_iload_n dX10_freeGhosts_4 rfl rfl ?_
  refine j_aload_n dX10_freeGhosts_5 rfl rfl ?_
  refine j_getR (ci := 10) (N := 11) (f := 0) (T := TX10) t dX10_freeGhosts_6 rfl (hG 12 (15, 11) rfl) rfl (by decide) fl_X10_30 rfl q12_0 ?_
  refine j_getI (ci := 8) (N := 20) (f := 2) (T := TX8) dX10_freeGhosts_9 rfl (ht.1 0 (13, 20) rfl) rfl (by decide) fl_X10_71 rfl ?_
  refine j_icmp_ge 54 dX10_freeGhosts_12 rfl (by decide) (fun c0 => ?_) (fun c0 => ?_)
  · skip
    refine j_iload_n dX10_freeGhosts_54 rfl rfl ?_
    exact j_iret dX10_freeGhosts_55 rfl (k0 c0)
  · skip
    refine j_aload_n dX10_freeGhosts_15 rfl rfl ?_
    refine j_iload_n dX10_freeGhosts_16 rfl rfl ?_
    refine j_cV (as := [.int x2]) (rest := []) dX10_freeGhosts_17 rfl vw_X10_80 (hG 12 (15, 11) rfl) rfl ⟨Nat.le_of_ble_eq_true rfl, Nat.le_of_ble_eq_true rfl⟩ rfl rfl (fun _ _ => Nat.le_of_ble_eq_true rfl) (e1 c0) (fun r μ' hr => ?_)
    obtain ⟨v, rfl, hr⟩ := hr
    exact k1 c0 v μ' hr
theorem b_X10_freeGhosts_20 {l : Launch} {G : jG} {μ : jM} {φ : Int32 → jM → Prop} {x1 x2 z0 : Int32} {r y : Nat} (hG : gGG G) (hP : gPP μ) (hgr : G[r]? = some (0, 71)) (hy : tO gWay pWay G μ y) (q12_5 : μ.2.2 12 5 = some r) 
    (k0 : (z0 = (0 : Int32)) → J l mX10_freeGhosts (jZ0 4 G (pI φ)) G 0 0 4 [.ref 12, .int x1, .int (x2 + 1)] [] μ) 
    (o0 : (¬ (z0 = (0 : Int32))) → vp_in x2 7) 
    (o1 : (¬ (z0 = (0 : Int32))) → μ.2.2 13 (Int32.toNatClampNeg x2) = some y) 
    (k1 : (¬ (z0 = (0 : Int32))) → (¬ ((μ.1 y 7) &&& (μ.1 r 4)) = (0 : Int32)) → J l mX10_freeGhosts (jZ0 4 G (pI φ)) G 0 0 4 [.ref 12, .int x1, .int (x2 + 1)] [] μ) 
    (k2 : (¬ (z0 = (0 : Int32))) → (((μ.1 y 7) &&& (μ.1 r 4)) = (0 : Int32)) → J l mX10_freeGhosts (jZ0 4 G (pI φ)) G 0 0 4 [.ref 12, .int (x1 ||| (1 <<< (x2 &&& 31))), .int (x2 + 1)] [] μ) :
    J l mX10_freeGhosts (jZ0 4 G (pI φ)) G 0 0 20 [.ref 12, .int x1, .int x2] [.int z0] μ := by
  refine j_if_eq 48 dX10_freeGhosts_20 rfl (by decide) (fun c0 => ?_) (fun c0 => ?_)
  · skip
    refine j_iinc (x2 + 1) (ls' := [.ref 12, .int x1, .int (x2 + 1)]) dX10_freeGhosts_48 rfl rfl rfl (Nat.le_of_ble_eq_true rfl) rfl ?_
    refine j_goto 4 dX10_freeGhosts_51 (by decide) ?_
    exact k0 c0
  · skip
    refine j_aload_n dX10_freeGhosts_23 rfl rfl ?_
    refine j_getR (ci := 10) (N := 11) (f := 3) (T := TX10) 13 dX10_freeGhosts_24 rfl (hG 12 (15, 11) rfl) rfl (by decide) fl_X10_11 rfl (hP 12 3 13 rfl) ?_
    refine j_iload_n dX10_freeGhosts_27 rfl rfl ?_
    refine j_aald' (j := (Int32.toNatClampNeg x2)) dX10_freeGhosts_28 rfl (hG 13 (4, 7) rfl) (o0 c0) rfl (o1 c0) ?_
    refine j_getI (ci := 9) (N := 9) (f := 7) (T := TX9) dX10_freeGhosts_29 rfl (hy.1 0 (14, 9) rfl) rfl (by decide) fl_X10_140 rfl ?_
    refine j_aload_n dX10_freeGhosts_32 rfl rfl ?_
    refine j_getR (ci := 10) (N := 11) (f := 5) (T := TX10) r dX10_freeGhosts_33 rfl (hG 12 (15, 11) rfl) rfl (by decide) fl_X10_49 rfl q12_5 ?_
    refine j_iconst 4 dX10_freeGhosts_36 rfl (by decide) ?_
    refine j_iald' (j := 4) dX10_freeGhosts_37 rfl hgr (vpK (by decide)) (by decide) ?_
    refine j_iand dX10_freeGhosts_38 rfl ?_
    refine j_if_ne 48 dX10_freeGhosts_39 rfl (by decide) (fun c1 => ?_) (fun c1 => ?_)
    · skip
      refine j_iinc (x2 + 1) (ls' := [.ref 12, .int x1, .int (x2 + 1)]) dX10_freeGhosts_48 rfl rfl rfl (Nat.le_of_ble_eq_true rfl) rfl ?_
      refine j_goto 4 dX10_freeGhosts_51 (by decide) ?_
      exact k1 c0 c1
    · skip
      refine j_iload_n dX10_freeGhosts_42 rfl rfl ?_
      refine j_iconst 1 dX10_freeGhosts_43 rfl (by decide) ?_
      refine j_iload_n dX10_freeGhosts_44 rfl rfl ?_
      refine j_ishl dX10_freeGhosts_45 rfl ?_
      refine j_ior dX10_freeGhosts_46 rfl ?_
      refine j_istore_n (ls' := [.ref 12, .int (x1 ||| (1 <<< (x2 &&& 31))), .int x2]) dX10_freeGhosts_47 rfl rfl (Nat.le_of_ble_eq_true rfl) rfl ?_
      refine j_iinc (x2 + 1) (ls' := [.ref 12, .int (x1 ||| (1 <<< (x2 &&& 31))), .int (x2 + 1)]) dX10_freeGhosts_48 rfl rfl rfl (Nat.le_of_ble_eq_true rfl) rfl ?_
      refine j_goto 4 dX10_freeGhosts_51 (by decide) ?_
      exact k2 c0 c1
theorem b_X10_walk_0 {l : Launch} {G : jG} {μ : jM} {φ : jM → Prop} {x1 : Int32} {r t y : Nat} (hG : gGG G) (hP : gPP μ) (hgr : G[r]? = some (0, 71)) (ht : tO gTold pTold G μ t) (hy : tO gWay pWay G μ y) (q12_0 : μ.2.2 12 0 = some t) (q12_5 : μ.2.2 12 5 = some r) 
    (o0 : vp_in x1 7) 
    (o1 : μ.2.2 13 (Int32.toNatClampNeg x1) = some y) 
    (k0 : J l mX10_walk (jZ0 2 G (pV φ)) G 0 0 29 [.ref 12, .int x1, .ref y, .ref r, .int (μ.1 (t + 7) (Int32.toNatClampNeg x1)), .int 0, .int 0, .null, .null, .null] [] μ) :
    J l mX10_walk (jZ0 2 G (pV φ)) G 0 0 0 [.ref 12, .int x1, .null, .null, .null, .null, .null, .null, .null, .null] [] μ := by
  refine j_aload_n dX10_walk_0 rfl rfl ?_
  refine j_getR (ci := 10) (N := 11) (f := 3) (T := TX10) 13 dX10_walk_1 rfl (hG 12 (15, 11) rfl) rfl (by decide) fl_X10_11 rfl (hP 12 3 13 rfl) ?_
  refine j_iload_n dX10_walk_4 rfl rfl ?_
  refine j_aald' (j := (Int32.toNatClampNeg x1)) dX10_walk_5 rfl (hG 13 (4, 7) rfl) o0 rfl o1 ?_
  refine j_astore_n (ls' := [.ref 12, .int x1, .ref y, .null, .null, .null, .null, .null, .null, .null]) dX10_walk_6 rfl rfl (Nat.le_of_ble_eq_true rfl) rfl ?_
  refine j_aload_n dX10_walk_7 rfl rfl ?_
  refine j_getR (ci := 10) (N := 11) (f := 5) (T := TX10) r dX10_walk_8 rfl (hG 12 (15, 11) rfl) rfl (by decide) fl_X10_49 rfl q12_5 ?_
  refine j_astore_n (ls' := [.ref 12, .int x1, .ref y, .ref r, .null, .null, .null, .null, .null, .null]) dX10_walk_11 rfl rfl (Nat.le_of_ble_eq_true rfl) rfl ?_
  refine j_aload_n dX10_walk_12 rfl rfl ?_
  refine j_getR (ci := 10) (N := 11) (f := 0) (T := TX10) t dX10_walk_13 rfl (hG 12 (15, 11) rfl) rfl (by decide) fl_X10_30 rfl q12_0 ?_
  refine j_getR (ci := 8) (N := 20) (f := 11) (T := TX8) (t + 7) dX10_walk_16 rfl (ht.1 0 (13, 20) rfl) rfl (by decide) fl_X10_143 rfl (ht.2 0 11 7 rfl) ?_
  refine j_iload_n dX10_walk_19 rfl rfl ?_
  refine j_iald' (j := (Int32.toNatClampNeg x1)) dX10_walk_20 rfl (ht.1 7 (0, 7) rfl) o0 rfl ?_
  refine j_istore (ls' := [.ref 12, .int x1, .ref y, .ref r, .int (μ.1 (t + 7) (Int32.toNatClampNeg x1)), .null, .null, .null, .null, .null]) dX10_walk_21 rfl (Nat.le_of_ble_eq_true rfl) rfl ?_
  refine j_iconst 0 dX10_walk_23 rfl (by decide) ?_
  refine j_istore (ls' := [.ref 12, .int x1, .ref y, .ref r, .int (μ.1 (t + 7) (Int32.toNatClampNeg x1)), .int 0, .null, .null, .null, .null]) dX10_walk_24 rfl (Nat.le_of_ble_eq_true rfl) rfl ?_
  refine j_iconst 0 dX10_walk_26 rfl (by decide) ?_
  refine j_istore (ls' := [.ref 12, .int x1, .ref y, .ref r, .int (μ.1 (t + 7) (Int32.toNatClampNeg x1)), .int 0, .int 0, .null, .null, .null]) dX10_walk_27 rfl (Nat.le_of_ble_eq_true rfl) rfl ?_
  exact k0 
theorem b_X10_walk_29 {l : Launch} {G : jG} {μ : jM} {φ : jM → Prop} {x1 x4 x5 x6 : Int32} {ψ0 : jM → Prop} {r t y : Nat} (hG : gGG G) (hP : gPP μ) (hgr : G[r]? = some (0, 71)) (ht : tO gTold pTold G μ t) (hy : tO gWay pWay G μ y) (q12_0 : μ.2.2 12 0 = some t) 
    (o0 : ((μ.1 y 5) ≤ (x6 : Int32)) → vp_in x1 7) 
    (o1 : ((μ.1 y 5) ≤ (x6 : Int32)) → vp_in (43 + x1) 71) 
    (o2 : ((μ.1 y 5) ≤ (x6 : Int32)) → vp_in (50 + x1) 71) 
    (e0 : ((μ.1 y 5) ≤ (x6 : Int32)) → jC0 l mX10_doubt 0 G [.ref 12, .int x5] (wI (wI (wI (wI μ r 3 ((μ.1 r 3) + ((μ.1 (t + 7) (Int32.toNatClampNeg x1)) - x4))) r (Int32.toNatClampNeg (43 + x1)) (((wI μ r 3 ((μ.1 r 3) + ((μ.1 (t + 7) (Int32.toNatClampNeg x1)) - x4))).1 r (Int32.toNatClampNeg (43 + x1))) + ((μ.1 (t + 7) (Int32.toNatClampNeg x1)) - x4))) r (Int32.toNatClampNeg (50 + x1)) (((wI (wI μ r 3 ((μ.1 r 3) + ((μ.1 (t + 7) (Int32.toNatClampNeg x1)) - x4))) r (Int32.toNatClampNeg (43 + x1)) (((wI μ r 3 ((μ.1 r 3) + ((μ.1 (t + 7) (Int32.toNatClampNeg x1)) - x4))).1 r (Int32.toNatClampNeg (43 + x1))) + ((μ.1 (t + 7) (Int32.toNatClampNeg x1)) - x4))).1 r (Int32.toNatClampNeg (50 + x1))) + 1)) 12 4 (((wI (wI (wI μ r 3 ((μ.1 r 3) + ((μ.1 (t + 7) (Int32.toNatClampNeg x1)) - x4))) r (Int32.toNatClampNeg (43 + x1)) (((wI μ r 3 ((μ.1 r 3) + ((μ.1 (t + 7) (Int32.toNatClampNeg x1)) - x4))).1 r (Int32.toNatClampNeg (43 + x1))) + ((μ.1 (t + 7) (Int32.toNatClampNeg x1)) - x4))) r (Int32.toNatClampNeg (50 + x1)) (((wI (wI μ r 3 ((μ.1 r 3) + ((μ.1 (t + 7) (Int32.toNatClampNeg x1)) - x4))) r (Int32.toNatClampNeg (43 + x1)) (((wI μ r 3 ((μ.1 r 3) + ((μ.1 (t + 7) (Int32.toNatClampNeg x1)) - x4))).1 r (Int32.toNatClampNeg (43 + x1))) + ((μ.1 (t + 7) (Int32.toNatClampNeg x1)) - x4))).1 r (Int32.toNatClampNeg (50 + x1))) + 1)).1 12 4) ||| x5)) (pV ψ0)) 
    (k0 : ((μ.1 y 5) ≤ (x6 : Int32)) → ∀ μ', ψ0 μ' → J l mX10_walk (jZ0 2 G (pV φ)) G 0 0 241 [.ref 12, .null, .ref y, .null, .null, .null, .null, .null, .null, .null] [] μ') 
    (o3 : (¬ ((μ.1 y 5) ≤ (x6 : Int32))) → vp_in x6 8) 
    (o4 : (¬ ((μ.1 y 5) ≤ (x6 : Int32))) → vp_in (μ.1 (y + 3) (Int32.toNatClampNeg x6)) 12) 
    (k1 : (¬ ((μ.1 y 5) ≤ (x6 : Int32))) → ((μ.1 (y + 2) (Int32.toNatClampNeg (μ.1 (y + 3) (Int32.toNatClampNeg x6)))) ≤ (0 : Int32)) → J l mX10_walk (jZ0 2 G (pV φ)) G 0 0 89 [.ref 12, .int x1, .ref y, .ref r, .int x4, .int x5, .int x6, .int (μ.1 (y + 3) (Int32.toNatClampNeg x6)), .null, .null] [] μ) 
    (o5 : (¬ ((μ.1 y 5) ≤ (x6 : Int32))) → (¬ ((μ.1 (y + 2) (Int32.toNatClampNeg (μ.1 (y + 3) (Int32.toNatClampNeg x6)))) ≤ (0 : Int32))) → vp_in (31 + (μ.1 (y + 3) (Int32.toNatClampNeg x6))) 71) 
    (k2 : (¬ ((μ.1 y 5) ≤ (x6 : Int32))) → (¬ ((μ.1 (y + 2) (Int32.toNatClampNeg (μ.1 (y + 3) (Int32.toNatClampNeg x6)))) ≤ (0 : Int32))) → J l mX10_walk (jZ0 2 G (pV φ)) G 0 0 89 [.ref 12, .int x1, .ref y, .ref r, .int (x4 - (if x4 < (μ.1 (y + 2) (Int32.toNatClampNeg (μ.1 (y + 3) (Int32.toNatClampNeg x6)))) then x4 else (μ.1 (y + 2) (Int32.toNatClampNeg (μ.1 (y + 3) (Int32.toNatClampNeg x6)))))), .int x5, .int x6, .int (μ.1 (y + 3) (Int32.toNatClampNeg x6)), .null, .null] [] (wI μ r (Int32.toNatClampNeg (31 + (μ.1 (y + 3) (Int32.toNatClampNeg x6)))) ((μ.1 r (Int32.toNatClampNeg (31 + (μ.1 (y + 3) (Int32.toNatClampNeg x6))))) + (if x4 < (μ.1 (y + 2) (Int32.toNatClampNeg (μ.1 (y + 3) (Int32.toNatClampNeg x6)))) then x4 else (μ.1 (y + 2) (Int32.toNatClampNeg (μ.1 (y + 3) (Int32.toNatClampNeg x6)))))))) :
    J l mX10_walk (jZ0 2 G (pV φ)) G 0 0 29 [.ref 12, .int x1, .ref y, .ref r, .int x4, .int x5, .int x6, .null, .null, .null] [] μ := by
  refine j_iload dX10_walk_29 rfl rfl ?_
  refine j_aload_n dX10_walk_31 rfl rfl ?_
  refine j_getI (ci := 9) (N := 9) (f := 5) (T := TX9) dX10_walk_32 rfl (hy.1 0 (14, 9) rfl) rfl (by decide) fl_X10_130 rfl ?_
  refine j_icmp_ge 181 dX10_walk_35 rfl (by decide) (fun c0 => ?_) (fun c0 => ?_)
  · skip
    refine j_aload_n dX10_walk_181 rfl rfl ?_
    refine j_getR (ci := 10) (N := 11) (f := 0) (T := TX10) t dX10_walk_182 rfl (hG 12 (15, 11) rfl) rfl (by decide) fl_X10_30 rfl q12_0 ?_
    refine j_getR (ci := 8) (N := 20) (f := 11) (T := TX8) (t + 7) dX10_walk_185 rfl (ht.1 0 (13, 20) rfl) rfl (by decide) fl_X10_143 rfl (ht.2 0 11 7 rfl) ?_
    refine j_iload_n dX10_walk_188 rfl rfl ?_
    refine j_iald' (j := (Int32.toNatClampNeg x1)) dX10_walk_189 rfl (ht.1 7 (0, 7) rfl) (o0 c0) rfl ?_
    refine j_iload dX10_walk_190 rfl rfl ?_
    refine j_isub dX10_walk_192 rfl ?_
    refine j_istore (ls' := [.ref 12, .int x1, .ref y, .ref r, .int x4, .int x5, .int ((μ.1 (t + 7) (Int32.toNatClampNeg x1)) - x4), .null, .null, .null]) dX10_walk_193 rfl (Nat.le_of_ble_eq_true rfl) rfl ?_
    refine j_aload_n dX10_walk_195 rfl rfl ?_
    refine j_iconst 3 dX10_walk_196 rfl (by decide) ?_
    refine j_dup2 dX10_walk_197 rfl (fun _ _ => rfl) (fun _ _ => rfl) ?_
    refine j_iald' (j := 3) dX10_walk_198 rfl hgr (vpK (by decide)) (by decide) ?_
    refine j_iload dX10_walk_199 rfl rfl ?_
    refine j_iadd dX10_walk_201 rfl ?_
    refine j_iast' (j := 3) dX10_walk_202 rfl hgr (vpK (by decide)) (by decide) ?_
    refine j_aload_n dX10_walk_203 rfl rfl ?_
    refine j_bipush 43 dX10_walk_204 rfl (by decide) ?_
    refine j_iload_n dX10_walk_206 rfl rfl ?_
    refine j_iadd dX10_walk_207 rfl ?_
    refine j_dup2 dX10_walk_208 rfl (fun _ _ => rfl) (fun _ _ => rfl) ?_
    refine j_iald' (j := (Int32.toNatClampNeg (43 + x1))) dX10_walk_209 rfl hgr (o1 c0) rfl ?_
    refine j_iload dX10_walk_210 rfl rfl ?_
    refine j_iadd dX10_walk_212 rfl ?_
    refine j_iast' (j := (Int32.toNatClampNeg (43 + x1))) dX10_walk_213 rfl hgr (o1 c0) rfl ?_
    refine j_aload_n dX10_walk_214 rfl rfl ?_
    refine j_bipush 50 dX10_walk_215 rfl (by decide) ?_
    refine j_iload_n dX10_walk_217 rfl rfl ?_
    refine j_iadd dX10_walk_218 rfl ?_
    refine j_dup2 dX10_walk_219 rfl (fun _ _ => rfl) (fun _ _ => rfl) ?_
    refine j_iald' (j := (Int32.toNatClampNeg (50 + x1))) dX10_walk_220 rfl hgr (o2 c0) rfl ?_
    refine j_iconst 1 dX10_walk_221 rfl (by decide) ?_
    refine j_iadd dX10_walk_222 rfl ?_
    refine j_iast' (j := (Int32.toNatClampNeg (50 + x1))) dX10_walk_223 rfl hgr (o2 c0) rfl ?_
    refine j_aload_n dX10_walk_224 rfl rfl ?_
    refine j_dup dX10_walk_225 rfl (fun _ _ => rfl) ?_
    refine j_getI (ci := 10) (N := 11) (f := 4) (T := TX10) dX10_walk_226 rfl (hG 12 (15, 11) rfl) rfl (by decide) fl_X10_57 rfl ?_
    refine j_iload dX10_walk_229 rfl rfl ?_
    refine j_ior dX10_walk_231 rfl ?_
    refine j_putI (ci := 10) (N := 11) (f := 4) (T := TX10) dX10_walk_232 rfl (hG 12 (15, 11) rfl) rfl (by decide) fl_X10_57 rfl rfl ?_
    refine j_aload_n dX10_walk_235 rfl rfl ?_
    refine j_iload dX10_walk_236 rfl rfl ?_
    refine j_cV (as := [.int x5]) (rest := []) dX10_walk_238 rfl vw_X10_61 (hG 12 (15, 11) rfl) rfl ⟨Nat.le_of_ble_eq_true rfl, Nat.le_of_ble_eq_true rfl⟩ rfl rfl (fun _ _ => Nat.le_of_ble_eq_true rfl) (e0 c0) (fun r μ' hr => ?_)
    obtain ⟨rfl, hr⟩ := hr
    refine j_forget (ls' := [.ref 12, .null, .ref y, .null, .null, .null, .null, .null, .null, .null]) ⟨Or.inr rfl, Or.inl rfl, Or.inr rfl, Or.inl rfl, Or.inl rfl, Or.inl rfl, Or.inl rfl, Or.inr rfl, Or.inr rfl, Or.inr rfl, trivial⟩ ?_
    exact k0 c0 μ' hr
  · skip
    refine j_aload_n dX10_walk_38 rfl rfl ?_
    refine j_getR (ci := 9) (N := 9) (f := 4) (T := TX9) (y + 3) dX10_walk_39 rfl (hy.1 0 (14, 9) rfl) rfl (by decide) fl_X10_133 rfl (hy.2 0 4 3 rfl) ?_
    refine j_iload dX10_walk_42 rfl rfl ?_
    refine j_iald' (j := (Int32.toNatClampNeg x6)) dX10_walk_44 rfl (hy.1 3 (0, 8) rfl) (o3 c0) rfl ?_
    refine j_istore (ls' := [.ref 12, .int x1, .ref y, .ref r, .int x4, .int x5, .int x6, .int (μ.1 (y + 3) (Int32.toNatClampNeg x6)), .null, .null]) dX10_walk_45 rfl (Nat.le_of_ble_eq_true rfl) rfl ?_
    refine j_aload_n dX10_walk_47 rfl rfl ?_
    refine j_getR (ci := 9) (N := 9) (f := 3) (T := TX9) (y + 2) dX10_walk_48 rfl (hy.1 0 (14, 9) rfl) rfl (by decide) fl_X10_121 rfl (hy.2 0 3 2 rfl) ?_
    refine j_iload dX10_walk_51 rfl rfl ?_
    refine j_iald' (j := (Int32.toNatClampNeg (μ.1 (y + 3) (Int32.toNatClampNeg x6)))) dX10_walk_53 rfl (hy.1 2 (0, 12) rfl) (o4 c0) rfl ?_
    refine j_istore (ls' := [.ref 12, .int x1, .ref y, .ref r, .int x4, .int x5, .int x6, .int (μ.1 (y + 3) (Int32.toNatClampNeg x6)), .int (μ.1 (y + 2) (Int32.toNatClampNeg (μ.1 (y + 3) (Int32.toNatClampNeg x6)))), .null]) dX10_walk_54 rfl (Nat.le_of_ble_eq_true rfl) rfl ?_
    refine j_iload dX10_walk_56 rfl rfl ?_
    refine j_if_le 89 dX10_walk_58 rfl (by decide) (fun c1 => ?_) (fun c1 => ?_)
    · skip
      refine j_forget (ls' := [.ref 12, .int x1, .ref y, .ref r, .int x4, .int x5, .int x6, .int (μ.1 (y + 3) (Int32.toNatClampNeg x6)), .null, .null]) ⟨Or.inr rfl, Or.inr rfl, Or.inr rfl, Or.inr rfl, Or.inr rfl, Or.inr rfl, Or.inr rfl, Or.inr rfl, Or.inl rfl, Or.inr rfl, trivial⟩ ?_
      exact k1 c0 c1
    · skip
      refine j_iload dX10_walk_61 rfl rfl ?_
      refine j_iload dX10_walk_63 rfl rfl ?_
      refine j_min dX10_walk_65 rfl vw_X10_135 ⟨Nat.le_of_ble_eq_true rfl, fun _ _ => Nat.le_of_ble_eq_true rfl⟩ ?_
      refine j_istore (ls' := [.ref 12, .int x1, .ref y, .ref r, .int x4, .int x5, .int x6, .int (μ.1 (y + 3) (Int32.toNatClampNeg x6)), .int (μ.1 (y + 2) (Int32.toNatClampNeg (μ.1 (y + 3) (Int32.toNatClampNeg x6)))), .int (if x4 < (μ.1 (y + 2) (Int32.toNatClampNeg (μ.1 (y + 3) (Int32.toNatClampNeg x6)))) then x4 else (μ.1 (y + 2) (Int32.toNatClampNeg (μ.1 (y + 3) (Int32.toNatClampNeg x6)))))]) dX10_walk_68 rfl (Nat.le_of_ble_eq_true rfl) rfl ?_
      refine j_iload dX10_walk_70 rfl rfl ?_
      refine j_iload dX10_walk_72 rfl rfl ?_
      refine j_isub dX10_walk_74 rfl ?_
      refine j_istore (ls' := [.ref 12, .int x1, .ref y, .ref r, .int (x4 - (if x4 < (μ.1 (y + 2) (Int32.toNatClampNeg (μ.1 (y + 3) (Int32.toNatClampNeg x6)))) then x4 else (μ.1 (y + 2) (Int32.toNatClampNeg (μ.1 (y + 3) (Int32.toNatClampNeg x6)))))), .int x5, .int x6, .int (μ.1 (y + 3) (Int32.toNatClampNeg x6)), .int (μ.1 (y + 2) (Int32.toNatClampNeg (μ.1 (y + 3) (Int32.toNatClampNeg x6)))), .int (if x4 < (μ.1 (y + 2) (Int32.toNatClampNeg (μ.1 (y + 3) (Int32.toNatClampNeg x6)))) then x4 else (μ.1 (y + 2) (Int32.toNatClampNeg (μ.1 (y + 3) (Int32.toNatClampNeg x6)))))]) dX10_walk_75 rfl (Nat.le_of_ble_eq_true rfl) rfl ?_
      refine j_aload_n dX10_walk_77 rfl rfl ?_
      refine j_bipush 31 dX10_walk_78 rfl (by decide) ?_
      refine j_iload dX10_walk_80 rfl rfl ?_
      refine j_iadd dX10_walk_82 rfl ?_
      refine j_dup2 dX10_walk_83 rfl (fun _ _ => rfl) (fun _ _ => rfl) ?_
      refine j_iald' (j := (Int32.toNatClampNeg (31 + (μ.1 (y + 3) (Int32.toNatClampNeg x6))))) dX10_walk_84 rfl hgr (o5 c0 c1) rfl ?_
      refine j_iload dX10_walk_85 rfl rfl ?_
      refine j_iadd dX10_walk_87 rfl ?_
      refine j_iast' (j := (Int32.toNatClampNeg (31 + (μ.1 (y + 3) (Int32.toNatClampNeg x6))))) dX10_walk_88 rfl hgr (o5 c0 c1) rfl ?_
      refine j_forget (ls' := [.ref 12, .int x1, .ref y, .ref r, .int (x4 - (if x4 < (μ.1 (y + 2) (Int32.toNatClampNeg (μ.1 (y + 3) (Int32.toNatClampNeg x6)))) then x4 else (μ.1 (y + 2) (Int32.toNatClampNeg (μ.1 (y + 3) (Int32.toNatClampNeg x6)))))), .int x5, .int x6, .int (μ.1 (y + 3) (Int32.toNatClampNeg x6)), .null, .null]) ⟨Or.inr rfl, Or.inr rfl, Or.inr rfl, Or.inr rfl, Or.inr rfl, Or.inr rfl, Or.inr rfl, Or.inr rfl, Or.inl rfl, Or.inl rfl, trivial⟩ ?_
      exact k2 c0 c1
theorem b_X10_walk_89 {l : Launch} {G : jG} {μ : jM} {φ : jM → Prop} {x1 x4 x5 x6 x7 : Int32} {r t y : Nat} (hG : gGG G) (hP : gPP μ) (hgr : G[r]? = some (0, 71)) (ht : tO gTold pTold G μ t) (hy : tO gWay pWay G μ y) (q12_0 : μ.2.2 12 0 = some t) 
    (k0 : ((((μ.1 t 6) >>> (x7 &&& 31)) &&& 1) = (0 : Int32)) → J l mX10_walk (jZ0 2 G (pV φ)) G 0 0 138 [.ref 12, .int x1, .ref y, .ref r, .int x4, .int x5, .int x6, .int x7, .null, .null] [] μ) 
    (o0 : (¬ ((((μ.1 t 6) >>> (x7 &&& 31)) &&& 1) = (0 : Int32))) → vp_in (19 + x7) 71) 
    (o1 : (¬ ((((μ.1 t 6) >>> (x7 &&& 31)) &&& 1) = (0 : Int32))) → vp_in (64 + x1) 71) 
    (k1 : (¬ ((((μ.1 t 6) >>> (x7 &&& 31)) &&& 1) = (0 : Int32))) → J l mX10_walk (jZ0 2 G (pV φ)) G 0 0 138 [.ref 12, .int x1, .ref y, .ref r, .int x4, .int x5, .int x6, .int x7, .null, .null] [] (wI (wI (wI μ r (Int32.toNatClampNeg (19 + x7)) ((μ.1 r (Int32.toNatClampNeg (19 + x7))) + 1)) r (Int32.toNatClampNeg (64 + x1)) (((wI μ r (Int32.toNatClampNeg (19 + x7)) ((μ.1 r (Int32.toNatClampNeg (19 + x7))) + 1)).1 r (Int32.toNatClampNeg (64 + x1))) + 1)) 12 2 (((wI (wI μ r (Int32.toNatClampNeg (19 + x7)) ((μ.1 r (Int32.toNatClampNeg (19 + x7))) + 1)) r (Int32.toNatClampNeg (64 + x1)) (((wI μ r (Int32.toNatClampNeg (19 + x7)) ((μ.1 r (Int32.toNatClampNeg (19 + x7))) + 1)).1 r (Int32.toNatClampNeg (64 + x1))) + 1)).1 12 2) ||| (1 <<< (x7 &&& 31))))) :
    J l mX10_walk (jZ0 2 G (pV φ)) G 0 0 89 [.ref 12, .int x1, .ref y, .ref r, .int x4, .int x5, .int x6, .int x7, .null, .null] [] μ := by
  refine j_aload_n dX10_walk_89 rfl rfl ?_
  refine j_getR (ci := 10) (N := 11) (f := 0) (T := TX10) t dX10_walk_90 rfl (hG 12 (15, 11) rfl) rfl (by decide) fl_X10_30 rfl q12_0 ?_
  refine j_getI (ci := 8) (N := 20) (f := 6) (T := TX8) dX10_walk_93 rfl (ht.1 0 (13, 20) rfl) rfl (by decide) fl_X10_124 rfl ?_
  refine j_iload dX10_walk_96 rfl rfl ?_
  refine j_ishr dX10_walk_98 rfl ?_
  refine j_iconst 1 dX10_walk_99 rfl (by decide) ?_
  refine j_iand dX10_walk_100 rfl ?_
  refine j_if_eq 138 dX10_walk_101 rfl (by decide) (fun c0 => ?_) (fun c0 => ?_)
  · skip
    exact k0 c0
  · skip
    refine j_aload_n dX10_walk_104 rfl rfl ?_
    refine j_bipush 19 dX10_walk_105 rfl (by decide) ?_
    refine j_iload dX10_walk_107 rfl rfl ?_
    refine j_iadd dX10_walk_109 rfl ?_
    refine j_dup2 dX10_walk_110 rfl (fun _ _ => rfl) (fun _ _ => rfl) ?_
    refine j_iald' (j := (Int32.toNatClampNeg (19 + x7))) dX10_walk_111 rfl hgr (o0 c0) rfl ?_
    refine j_iconst 1 dX10_walk_112 rfl (by decide) ?_
    refine j_iadd dX10_walk_113 rfl ?_
    refine j_iast' (j := (Int32.toNatClampNeg (19 + x7))) dX10_walk_114 rfl hgr (o0 c0) rfl ?_
    refine j_aload_n dX10_walk_115 rfl rfl ?_
    refine j_bipush 64 dX10_walk_116 rfl (by decide) ?_
    refine j_iload_n dX10_walk_118 rfl rfl ?_
    refine j_iadd dX10_walk_119 rfl ?_
    refine j_dup2 dX10_walk_120 rfl (fun _ _ => rfl) (fun _ _ => rfl) ?_
    refine j_iald' (j := (Int32.toNatClampNeg (64 + x1))) dX10_walk_121 rfl hgr (o1 c0) rfl ?_
    refine j_iconst 1 dX10_walk_122 rfl (by decide) ?_
    refine j_iadd dX10_walk_123 rfl ?_
    refine j_iast' (j := (Int32.toNatClampNeg (64 + x1))) dX10_walk_124 rfl hgr (o1 c0) rfl ?_
    refine j_aload_n dX10_walk_125 rfl rfl ?_
    refine j_dup dX10_walk_126 rfl (fun _ _ => rfl) ?_
    refine j_getI (ci := 10) (N := 11) (f := 2) (T := TX10) dX10_walk_127 rfl (hG 12 (15, 11) rfl) rfl (by decide) fl_X10_68 rfl ?_
    refine j_iconst 1 dX10_walk_130 rfl (by decide) ?_
    refine j_iload dX10_walk_131 rfl rfl ?_
    refine j_ishl dX10_walk_133 rfl ?_
    refine j_ior dX10_walk_134 rfl ?_
    refine j_putI (ci := 10) (N := 11) (f := 2) (T := TX10) dX10_walk_135 rfl (hG 12 (15, 11) rfl) rfl (by decide) fl_X10_68 rfl rfl ?_
    exact k1 c0
theorem b_X10_walk_138 {l : Launch} {G : jG} {μ : jM} {φ : jM → Prop} {x1 x4 x5 x6 x7 : Int32} {r y : Nat} (hG : gGG G) (hP : gPP μ) (hgr : G[r]? = some (0, 71)) (hy : tO gWay pWay G μ y) 
    (o0 : vp_in (7 + x7) 71) 
    (o1 : vp_in x7 12) 
    (k0 : (((wI μ r (Int32.toNatClampNeg (7 + x7)) ((μ.1 r (Int32.toNatClampNeg (7 + x7))) + 1)).1 r (Int32.toNatClampNeg (7 + x7))) < (((wI μ r (Int32.toNatClampNeg (7 + x7)) ((μ.1 r (Int32.toNatClampNeg (7 + x7))) + 1)).1 14 (Int32.toNatClampNeg x7)) : Int32)) → J l mX10_walk (jZ0 2 G (pV φ)) G 0 0 175 [.ref 12, .int x1, .ref y, .ref r, .int x4, .int x5, .int x6, .null, .null, .null] [] (wI μ r (Int32.toNatClampNeg (7 + x7)) ((μ.1 r (Int32.toNatClampNeg (7 + x7))) + 1))) 
    (k1 : (¬ (((wI μ r (Int32.toNatClampNeg (7 + x7)) ((μ.1 r (Int32.toNatClampNeg (7 + x7))) + 1)).1 r (Int32.toNatClampNeg (7 + x7))) < (((wI μ r (Int32.toNatClampNeg (7 + x7)) ((μ.1 r (Int32.toNatClampNeg (7 + x7))) + 1)).1 14 (Int32.toNatClampNeg x7)) : Int32))) → J l mX10_walk (jZ0 2 G (pV φ)) G 0 0 175 [.ref 12, .int x1, .ref y, .ref r, .int x4, .int (x5 ||| (1 <<< (x7 &&& 31))), .int x6, .null, .null, .null] [] (wI μ r (Int32.toNatClampNeg (7 + x7)) ((μ.1 r (Int32.toNatClampNeg (7 + x7))) + 1))) :
    J l mX10_walk (jZ0 2 G (pV φ)) G 0 0 138 [.ref 12, .int x1, .ref y, .ref r, .int x4, .int x5, .int x6, .int x7, .null, .null] [] μ := by
  refine j_aload_n dX10_walk_138 rfl rfl ?_
  refine j_bipush 7 dX10_walk_139 rfl (by decide) ?_
  refine j_iload dX10_walk_141 rfl rfl ?_
  refine j_iadd dX10_walk_143 rfl ?_
  refine j_dup2 dX10_walk_144 rfl (fun _ _ => rfl) (fun _ _ => rfl) ?_
  refine j_iald' (j := (Int32.toNatClampNeg (7 + x7))) dX10_walk_145 rfl hgr o0 rfl ?_
  refine j_iconst 1 dX10_walk_146 rfl (by decide) ?_
  refine j_iadd dX10_walk_147 rfl ?_
  refine j_iast' (j := (Int32.toNatClampNeg (7 + x7))) dX10_walk_148 rfl hgr o0 rfl ?_
  refine j_aload_n dX10_walk_149 rfl rfl ?_
  refine j_bipush 7 dX10_walk_150 rfl (by decide) ?_
  refine j_iload dX10_walk_152 rfl rfl ?_
  refine j_iadd dX10_walk_154 rfl ?_
  refine j_iald' (j := (Int32.toNatClampNeg (7 + x7))) dX10_walk_155 rfl hgr o0 rfl ?_
  refine j_aload_n dX10_walk_156 rfl rfl ?_
  refine j_getR (ci := 10) (N := 11) (f := 8) (T := TX10) 14 dX10_walk_157 rfl (hG 12 (15, 11) rfl) rfl (by decide) fl_X10_17 rfl (hP 12 8 14 rfl) ?_
  refine j_iload dX10_walk_160 rfl rfl ?_
  refine j_iald' (j := (Int32.toNatClampNeg x7)) dX10_walk_162 rfl (hG 14 (0, 12) rfl) o1 rfl ?_
  refine j_icmp_lt 175 dX10_walk_163 rfl (by decide) (fun c0 => ?_) (fun c0 => ?_)
  · skip
    refine j_forget (ls' := [.ref 12, .int x1, .ref y, .ref r, .int x4, .int x5, .int x6, .null, .null, .null]) ⟨Or.inr rfl, Or.inr rfl, Or.inr rfl, Or.inr rfl, Or.inr rfl, Or.inr rfl, Or.inr rfl, Or.inl rfl, Or.inr rfl, Or.inr rfl, trivial⟩ ?_
    exact k0 c0
  · skip
    refine j_iload dX10_walk_166 rfl rfl ?_
    refine j_iconst 1 dX10_walk_168 rfl (by decide) ?_
    refine j_iload dX10_walk_169 rfl rfl ?_
    refine j_ishl dX10_walk_171 rfl ?_
    refine j_ior dX10_walk_172 rfl ?_
    refine j_istore (ls' := [.ref 12, .int x1, .ref y, .ref r, .int x4, .int (x5 ||| (1 <<< (x7 &&& 31))), .int x6, .int x7, .null, .null]) dX10_walk_173 rfl (Nat.le_of_ble_eq_true rfl) rfl ?_
    refine j_forget (ls' := [.ref 12, .int x1, .ref y, .ref r, .int x4, .int (x5 ||| (1 <<< (x7 &&& 31))), .int x6, .null, .null, .null]) ⟨Or.inr rfl, Or.inr rfl, Or.inr rfl, Or.inr rfl, Or.inr rfl, Or.inr rfl, Or.inr rfl, Or.inl rfl, Or.inr rfl, Or.inr rfl, trivial⟩ ?_
    exact k1 c0
theorem b_X10_walk_175 {l : Launch} {G : jG} {μ : jM} {φ : jM → Prop} {x1 x4 x5 x6 : Int32} {r y : Nat} (hG : gGG G) (hP : gPP μ) (hgr : G[r]? = some (0, 71)) (hy : tO gWay pWay G μ y) 
    (k0 : J l mX10_walk (jZ0 2 G (pV φ)) G 0 0 29 [.ref 12, .int x1, .ref y, .ref r, .int x4, .int x5, .int (x6 + 1), .null, .null, .null] [] μ) :
    J l mX10_walk (jZ0 2 G (pV φ)) G 0 0 175 [.ref 12, .int x1, .ref y, .ref r, .int x4, .int x5, .int x6, .null, .null, .null] [] μ := by
  refine j_iinc (x6 + 1) (ls' := [.ref 12, .int x1, .ref y, .ref r, .int x4, .int x5, .int (x6 + 1), .null, .null, .null]) dX10_walk_175 rfl rfl rfl (Nat.le_of_ble_eq_true rfl) rfl ?_
  refine j_goto 29 dX10_walk_178 (by decide) ?_
  exact k0 
theorem b_X10_walk_241 {l : Launch} {G : jG} {μ : jM} {φ : jM → Prop} {ψ0 : jM → Prop} {y : Nat} (hG : gGG G) (hP : gPP μ) (hy : tO gWay pWay G μ y) 
    (e0 : jC0 l mX10_doubtBy 1 G [.ref 12, .long 16777215, .int (μ.1 y 7)] μ (pV ψ0)) 
    (k0 : ∀ μ', ψ0 μ' → J l mX10_walk (jZ0 2 G (pV φ)) G 0 0 252 [.null, .null, .null, .null, .null, .null, .null, .null, .null, .null] [] μ') :
    J l mX10_walk (jZ0 2 G (pV φ)) G 0 0 241 [.ref 12, .null, .ref y, .null, .null, .null, .null, .null, .null, .null] [] μ := by
  refine j_aload_n dX10_walk_241 rfl rfl ?_
  refine j_ldc2 16777215 dX10_walk_242 rfl ck_X10_146 ?_
  refine j_aload_n dX10_walk_245 rfl rfl ?_
  refine j_getI (ci := 9) (N := 9) (f := 7) (T := TX9) dX10_walk_246 rfl (hy.1 0 (14, 9) rfl) rfl (by decide) fl_X10_140 rfl ?_
  refine j_cV (as := [.long 16777215, .int (μ.1 y 7)]) (rest := []) dX10_walk_249 rfl vw_X10_148 (hG 12 (15, 11) rfl) rfl ⟨Nat.le_of_ble_eq_true rfl, Nat.le_of_ble_eq_true rfl⟩ rfl rfl (fun _ _ => Nat.le_of_ble_eq_true rfl) (e0 ) (fun r μ' hr => ?_)
  obtain ⟨rfl, hr⟩ := hr
  refine j_forget (ls' := [.null, .null, .null, .null, .null, .null, .null, .null, .null, .null]) ⟨Or.inl rfl, Or.inr rfl, Or.inl rfl, Or.inr rfl, Or.inr rfl, Or.inr rfl, Or.inr rfl, Or.inr rfl, Or.inr rfl, Or.inr rfl, trivial⟩ ?_
  exact k0  μ' hr
theorem b_X10_walk_252 {l : Launch} {G : jG} {μ : jM} {φ : jM → Prop} (hG : gGG G) (hP : gPP μ) 
    (k0 : φ μ) :
    J l mX10_walk (jZ0 2 G (pV φ)) G 0 0 252 [.null, .null, .null, .null, .null, .null, .null, .null, .null, .null] [] μ := by
  exact j_vret dX10_walk_252 rfl (k0 )
theorem b_X10_findBroken_0 {l : Launch} {G : jG} {μ : jM} {φ : Int32 → jM → Prop} {t : Nat} (hG : gGG G) (hP : gPP μ) (ht : tO gTold pTold G μ t) (q12_0 : μ.2.2 12 0 = some t) 
    (k0 : J l mX10_findBroken (jZ0 0 G (pI φ)) G 0 0 12 [.ref 12, .int 0, .int ((μ.1 t 1) - 1)] [] μ) :
    J l mX10_findBroken (jZ0 0 G (pI φ)) G 0 0 0 [.ref 12, .null, .null] [] μ := by
  refine j_iconst 0 dX10_findBroken_0 rfl (by decide) ?_
  refine j_istore_n (ls' := [.ref 12, .int 0, .null]) dX10_findBroken_1 rfl rfl (Nat.le_of_ble_eq_true rfl) rfl ?_
  refine j_aload_n dX10_findBroken_2 rfl rfl ?_
  refine j_getR (ci := 10) (N := 11) (f := 0) (T := TX10) t dX10_findBroken_3 rfl (hG 12 (15, 11) rfl) rfl (by decide) fl_X10_30 rfl q12_0 ?_
  refine j_getI (ci := 8) (N := 20) (f := 1) (T := TX8) dX10_findBroken_6 rfl (ht.1 0 (13, 20) rfl) rfl (by decide) fl_X10_90 rfl ?_
  refine j_iconst 1 dX10_findBroken_9 rfl (by decide) ?_
  refine j_isub dX10_findBroken_10 rfl ?_
  refine j_istore_n (ls' := [.ref 12, .int 0, .int ((μ.1 t 1) - 1)]) dX10_findBroken_11 rfl rfl (Nat.le_of_ble_eq_true rfl) rfl ?_
  exact k0 
theorem b_X10_findBroken_12 {l : Launch} {G : jG} {μ : jM} {φ : Int32 → jM → Prop} {x1 x2 : Int32} {r : Nat} (hG : gGG G) (hP : gPP μ) (hgr : G[r]? = some (0, 71)) (q12_5 : μ.2.2 12 5 = some r) 
    (k0 : (x2 < (0 : Int32)) → φ x1 μ) 
    (o0 : (¬ (x2 < (0 : Int32))) → vp_in (7 + x2) 71) 
    (o1 : (¬ (x2 < (0 : Int32))) → vp_in x2 12) 
    (k1 : (¬ (x2 < (0 : Int32))) → ((μ.1 r (Int32.toNatClampNeg (7 + x2))) < ((μ.1 14 (Int32.toNatClampNeg x2)) : Int32)) → J l mX10_findBroken (jZ0 0 G (pI φ)) G 0 0 12 [.ref 12, .int x1, .int (x2 + (-1))] [] μ) 
    (k2 : (¬ (x2 < (0 : Int32))) → (¬ ((μ.1 r (Int32.toNatClampNeg (7 + x2))) < ((μ.1 14 (Int32.toNatClampNeg x2)) : Int32))) → J l mX10_findBroken (jZ0 0 G (pI φ)) G 0 0 12 [.ref 12, .int (x1 ||| (1 <<< (x2 &&& 31))), .int (x2 + (-1))] [] μ) :
    J l mX10_findBroken (jZ0 0 G (pI φ)) G 0 0 12 [.ref 12, .int x1, .int x2] [] μ := by
  refine j_iload_n dX10_findBroken_12 rfl rfl ?_
  refine j_if_lt 46 dX10_findBroken_13 rfl (by decide) (fun c0 => ?_) (fun c0 => ?_)
  · skip
    refine j_iload_n dX10_findBroken_46 rfl rfl ?_
    exact j_iret dX10_findBroken_47 rfl (k0 c0)
  · skip
    refine j_aload_n dX10_findBroken_16 rfl rfl ?_
    refine j_getR (ci := 10) (N := 11) (f := 5) (T := TX10) r dX10_findBroken_17 rfl (hG 12 (15, 11) rfl) rfl (by decide) fl_X10_49 rfl q12_5 ?_
    refine j_bipush 7 dX10_findBroken_20 rfl (by decide) ?_
    refine j_iload_n dX10_findBroken_22 rfl rfl ?_
    refine j_iadd dX10_findBroken_23 rfl ?_
    refine j_iald' (j := (Int32.toNatClampNeg (7 + x2))) dX10_findBroken_24 rfl hgr (o0 c0) rfl ?_
    refine j_aload_n dX10_findBroken_25 rfl rfl ?_
    refine j_getR (ci := 10) (N := 11) (f := 8) (T := TX10) 14 dX10_findBroken_26 rfl (hG 12 (15, 11) rfl) rfl (by decide) fl_X10_17 rfl (hP 12 8 14 rfl) ?_
    refine j_iload_n dX10_findBroken_29 rfl rfl ?_
    refine j_iald' (j := (Int32.toNatClampNeg x2)) dX10_findBroken_30 rfl (hG 14 (0, 12) rfl) (o1 c0) rfl ?_
    refine j_icmp_lt 40 dX10_findBroken_31 rfl (by decide) (fun c1 => ?_) (fun c1 => ?_)
    · skip
      refine j_iinc (x2 + (-1)) (ls' := [.ref 12, .int x1, .int (x2 + (-1))]) dX10_findBroken_40 rfl rfl rfl (Nat.le_of_ble_eq_true rfl) rfl ?_
      refine j_goto 12 dX10_findBroken_43 (by decide) ?_
      exact k1 c0 c1
    · skip
      refine j_iload_n dX10_findBroken_34 rfl rfl ?_
      refine j_iconst 1 dX10_findBroken_35 rfl (by decide) ?_
      refine j_iload_n dX10_findBroken_36 rfl rfl ?_
      refine j_ishl dX10_findBroken_37 rfl ?_
      refine j_ior dX10_findBroken_38 rfl ?_
      refine j_istore_n (ls' := [.ref 12, .int (x1 ||| (1 <<< (x2 &&& 31))), .int x2]) dX10_findBroken_39 rfl rfl (Nat.le_of_ble_eq_true rfl) rfl ?_
      refine j_iinc (x2 + (-1)) (ls' := [.ref 12, .int (x1 ||| (1 <<< (x2 &&& 31))), .int (x2 + (-1))]) dX10_findBroken_40 rfl rfl rfl (Nat.le_of_ble_eq_true rfl) rfl ?_
      refine j_goto 12 dX10_findBroken_43 (by decide) ?_
      exact k2 c0 c1
theorem b_X10_doubtBy_0 {l : Launch} {G : jG} {μ : jM} {φ : jM → Prop} {x3 : Int32} {x1 : Int64} {ψ0 : jM → Prop} {ψ1 : jM → Prop} {ψ2 : jM → Prop} {ψ3 : jM → Prop} {r t : Nat} (hG : gGG G) (hP : gPP μ) (hgr : G[r]? = some (0, 71)) (ht : tO gTold pTold G μ t) (q12_0 : μ.2.2 12 0 = some t) (q12_5 : μ.2.2 12 5 = some r) 
    (e0 : ((lg_cmp (x1 &&& (μ.2.1 (t + 9) 0)) 0) = (0 : Int32)) → ((lg_cmp (x1 &&& (μ.2.1 (t + 13) 0)) 0) = (0 : Int32)) → jC0 l mX10_doubt 0 G [.ref 12, .int (0 &&& x3)] μ (pV ψ0)) 
    (k0 : ((lg_cmp (x1 &&& (μ.2.1 (t + 9) 0)) 0) = (0 : Int32)) → ((lg_cmp (x1 &&& (μ.2.1 (t + 13) 0)) 0) = (0 : Int32)) → ∀ μ', ψ0 μ' → J l mX10_doubtBy (jZ0 1 G (pV φ)) G 0 0 68 [.null, .null, .null, .null, .null] [] μ') 
    (e1 : ((lg_cmp (x1 &&& (μ.2.1 (t + 9) 0)) 0) = (0 : Int32)) → (¬ ((lg_cmp (x1 &&& (μ.2.1 (t + 13) 0)) 0) = (0 : Int32))) → jC0 l mX10_doubt 0 G [.ref 12, .int ((0 ||| (μ.1 t 6)) &&& x3)] μ (pV ψ1)) 
    (k1 : ((lg_cmp (x1 &&& (μ.2.1 (t + 9) 0)) 0) = (0 : Int32)) → (¬ ((lg_cmp (x1 &&& (μ.2.1 (t + 13) 0)) 0) = (0 : Int32))) → ∀ μ', ψ1 μ' → J l mX10_doubtBy (jZ0 1 G (pV φ)) G 0 0 68 [.null, .null, .null, .null, .null] [] μ') 
    (e2 : (¬ ((lg_cmp (x1 &&& (μ.2.1 (t + 9) 0)) 0) = (0 : Int32))) → ((lg_cmp (x1 &&& (μ.2.1 (t + 13) 0)) 0) = (0 : Int32)) → jC0 l mX10_doubt 0 G [.ref 12, .int ((0 ||| (μ.1 r 4)) &&& x3)] μ (pV ψ2)) 
    (k2 : (¬ ((lg_cmp (x1 &&& (μ.2.1 (t + 9) 0)) 0) = (0 : Int32))) → ((lg_cmp (x1 &&& (μ.2.1 (t + 13) 0)) 0) = (0 : Int32)) → ∀ μ', ψ2 μ' → J l mX10_doubtBy (jZ0 1 G (pV φ)) G 0 0 68 [.null, .null, .null, .null, .null] [] μ') 
    (e3 : (¬ ((lg_cmp (x1 &&& (μ.2.1 (t + 9) 0)) 0) = (0 : Int32))) → (¬ ((lg_cmp (x1 &&& (μ.2.1 (t + 13) 0)) 0) = (0 : Int32))) → jC0 l mX10_doubt 0 G [.ref 12, .int (((0 ||| (μ.1 r 4)) ||| (μ.1 t 6)) &&& x3)] μ (pV ψ3)) 
    (k3 : (¬ ((lg_cmp (x1 &&& (μ.2.1 (t + 9) 0)) 0) = (0 : Int32))) → (¬ ((lg_cmp (x1 &&& (μ.2.1 (t + 13) 0)) 0) = (0 : Int32))) → ∀ μ', ψ3 μ' → J l mX10_doubtBy (jZ0 1 G (pV φ)) G 0 0 68 [.null, .null, .null, .null, .null] [] μ') :
    J l mX10_doubtBy (jZ0 1 G (pV φ)) G 0 0 0 [.ref 12, .long x1, .null, .int x3, .null] [] μ := by
  refine j_iconst 0 dX10_doubtBy_0 rfl (by decide) ?_
  refine j_istore (ls' := [.ref 12, .long x1, .null, .int x3, .int 0]) dX10_doubtBy_1 rfl (Nat.le_of_ble_eq_true rfl) rfl ?_
  refine j_lload_n dX10_doubtBy_3 rfl rfl ?_
  refine j_aload_n dX10_doubtBy_4 rfl rfl ?_
  refine j_getR (ci := 10) (N := 11) (f := 0) (T := TX10) t dX10_doubtBy_5 rfl (hG 12 (15, 11) rfl) rfl (by decide) fl_X10_30 rfl q12_0 ?_
  refine j_getR (ci := 8) (N := 20) (f := 13) (T := TX8) (t + 9) dX10_doubtBy_8 rfl (ht.1 0 (13, 20) rfl) rfl (by decide) fl_X10_113 rfl (ht.2 0 13 9 rfl) ?_
  refine j_getL (ci := 2) (N := 6) (f := 0) (T := TX2) dX10_doubtBy_11 rfl (ht.1 9 (7, 6) rfl) rfl (by decide) fl_X10_152 rfl ?_
  refine j_land dX10_doubtBy_14 rfl ?_
  refine j_lconst 0 dX10_doubtBy_15 rfl (by decide) ?_
  refine j_lcmp dX10_doubtBy_16 rfl ?_
  refine j_if_eq 31 dX10_doubtBy_17 rfl (by decide) (fun c0 => ?_) (fun c0 => ?_)
  · skip
    refine j_lload_n dX10_doubtBy_31 rfl rfl ?_
    refine j_aload_n dX10_doubtBy_32 rfl rfl ?_
    refine j_getR (ci := 10) (N := 11) (f := 0) (T := TX10) t dX10_doubtBy_33 rfl (hG 12 (15, 11) rfl) rfl (by decide) fl_X10_30 rfl q12_0 ?_
    refine j_getR (ci := 8) (N := 20) (f := 14) (T := TX8) (t + 13) dX10_doubtBy_36 rfl (ht.1 0 (13, 20) rfl) rfl (by decide) fl_X10_127 rfl (ht.2 0 14 13 rfl) ?_
    refine j_getL (ci := 2) (N := 6) (f := 0) (T := TX2) dX10_doubtBy_39 rfl (ht.1 13 (7, 6) rfl) rfl (by decide) fl_X10_152 rfl ?_
    refine j_land dX10_doubtBy_42 rfl ?_
    refine j_lconst 0 dX10_doubtBy_43 rfl (by decide) ?_
    refine j_lcmp dX10_doubtBy_44 rfl ?_
    refine j_if_eq 60 dX10_doubtBy_45 rfl (by decide) (fun c1 => ?_) (fun c1 => ?_)
    · skip
      refine j_aload_n dX10_doubtBy_60 rfl rfl ?_
      refine j_iload dX10_doubtBy_61 rfl rfl ?_
      refine j_iload_n dX10_doubtBy_63 rfl rfl ?_
      refine j_iand dX10_doubtBy_64 rfl ?_
      refine j_cV (as := [.int (0 &&& x3)]) (rest := []) dX10_doubtBy_65 rfl vw_X10_61 (hG 12 (15, 11) rfl) rfl ⟨Nat.le_of_ble_eq_true rfl, Nat.le_of_ble_eq_true rfl⟩ rfl rfl (fun _ _ => Nat.le_of_ble_eq_true rfl) (e0 c0 c1) (fun r μ' hr => ?_)
      obtain ⟨rfl, hr⟩ := hr
      refine j_forget (ls' := [.null, .null, .null, .null, .null]) ⟨Or.inl rfl, Or.inl rfl, Or.inr rfl, Or.inl rfl, Or.inl rfl, trivial⟩ ?_
      exact k0 c0 c1 μ' hr
    · skip
      refine j_iload dX10_doubtBy_48 rfl rfl ?_
      refine j_aload_n dX10_doubtBy_50 rfl rfl ?_
      refine j_getR (ci := 10) (N := 11) (f := 0) (T := TX10) t dX10_doubtBy_51 rfl (hG 12 (15, 11) rfl) rfl (by decide) fl_X10_30 rfl q12_0 ?_
      refine j_getI (ci := 8) (N := 20) (f := 6) (T := TX8) dX10_doubtBy_54 rfl (ht.1 0 (13, 20) rfl) rfl (by decide) fl_X10_124 rfl ?_
      refine j_ior dX10_doubtBy_57 rfl ?_
      refine j_istore (ls' := [.ref 12, .long x1, .null, .int x3, .int (0 ||| (μ.1 t 6))]) dX10_doubtBy_58 rfl (Nat.le_of_ble_eq_true rfl) rfl ?_
      refine j_aload_n dX10_doubtBy_60 rfl rfl ?_
      refine j_iload dX10_doubtBy_61 rfl rfl ?_
      refine j_iload_n dX10_doubtBy_63 rfl rfl ?_
      refine j_iand dX10_doubtBy_64 rfl ?_
      refine j_cV (as := [.int ((0 ||| (μ.1 t 6)) &&& x3)]) (rest := []) dX10_doubtBy_65 rfl vw_X10_61 (hG 12 (15, 11) rfl) rfl ⟨Nat.le_of_ble_eq_true rfl, Nat.le_of_ble_eq_true rfl⟩ rfl rfl (fun _ _ => Nat.le_of_ble_eq_true rfl) (e1 c0 c1) (fun r μ' hr => ?_)
      obtain ⟨rfl, hr⟩ := hr
      refine j_forget (ls' := [.null, .null, .null, .null, .null]) ⟨Or.inl rfl, Or.inl rfl, Or.inr rfl, Or.inl rfl, Or.inl rfl, trivial⟩ ?_
      exact k1 c0 c1 μ' hr
  · skip
    refine j_iload dX10_doubtBy_20 rfl rfl ?_
    refine j_aload_n dX10_doubtBy_22 rfl rfl ?_
    refine j_getR (ci := 10) (N := 11) (f := 5) (T := TX10) r dX10_doubtBy_23 rfl (hG 12 (15, 11) rfl) rfl (by decide) fl_X10_49 rfl q12_5 ?_
    refine j_iconst 4 dX10_doubtBy_26 rfl (by decide) ?_
    refine j_iald' (j := 4) dX10_doubtBy_27 rfl hgr (vpK (by decide)) (by decide) ?_
    refine j_ior dX10_doubtBy_28 rfl ?_
    refine j_istore (ls' := [.ref 12, .long x1, .null, .int x3, .int (0 ||| (μ.1 r 4))]) dX10_doubtBy_29 rfl (Nat.le_of_ble_eq_true rfl) rfl ?_
    refine j_lload_n dX10_doubtBy_31 rfl rfl ?_
    refine j_aload_n dX10_doubtBy_32 rfl rfl ?_
    refine j_getR (ci := 10) (N := 11) (f := 0) (T := TX10) t dX10_doubtBy_33 rfl (hG 12 (15, 11) rfl) rfl (by decide) fl_X10_30 rfl q12_0 ?_
    refine j_getR (ci := 8) (N := 20) (f := 14) (T := TX8) (t + 13) dX10_doubtBy_36 rfl (ht.1 0 (13, 20) rfl) rfl (by decide) fl_X10_127 rfl (ht.2 0 14 13 rfl) ?_
    refine j_getL (ci := 2) (N := 6) (f := 0) (T := TX2) dX10_doubtBy_39 rfl (ht.1 13 (7, 6) rfl) rfl (by decide) fl_X10_152 rfl ?_
    refine j_land dX10_doubtBy_42 rfl ?_
    refine j_lconst 0 dX10_doubtBy_43 rfl (by decide) ?_
    refine j_lcmp dX10_doubtBy_44 rfl ?_
    refine j_if_eq 60 dX10_doubtBy_45 rfl (by decide) (fun c2 => ?_) (fun c2 => ?_)
    · skip
      refine j_aload_n dX10_doubtBy_60 rfl rfl ?_
      refine j_iload dX10_doubtBy_61 rfl rfl ?_
      refine j_iload_n dX10_doubtBy_63 rfl rfl ?_
      refine j_iand dX10_doubtBy_64 rfl ?_
      refine j_cV (as := [.int ((0 ||| (μ.1 r 4)) &&& x3)]) (rest := []) dX10_doubtBy_65 rfl vw_X10_61 (hG 12 (15, 11) rfl) rfl ⟨Nat.le_of_ble_eq_true rfl, Nat.le_of_ble_eq_true rfl⟩ rfl rfl (fun _ _ => Nat.le_of_ble_eq_true rfl) (e2 c0 c2) (fun r μ' hr => ?_)
      obtain ⟨rfl, hr⟩ := hr
      refine j_forget (ls' := [.null, .null, .null, .null, .null]) ⟨Or.inl rfl, Or.inl rfl, Or.inr rfl, Or.inl rfl, Or.inl rfl, trivial⟩ ?_
      exact k2 c0 c2 μ' hr
    · skip
      refine j_iload dX10_doubtBy_48 rfl rfl ?_
      refine j_aload_n dX10_doubtBy_50 rfl rfl ?_
      refine j_getR (ci := 10) (N := 11) (f := 0) (T := TX10) t dX10_doubtBy_51 rfl (hG 12 (15, 11) rfl) rfl (by decide) fl_X10_30 rfl q12_0 ?_
      refine j_getI (ci := 8) (N := 20) (f := 6) (T := TX8) dX10_doubtBy_54 rfl (ht.1 0 (13, 20) rfl) rfl (by decide) fl_X10_124 rfl ?_
      refine j_ior dX10_doubtBy_57 rfl ?_
      refine j_istore (ls' := [.ref 12, .long x1, .null, .int x3, .int ((0 ||| (μ.1 r 4)) ||| (μ.1 t 6))]) dX10_doubtBy_58 rfl (Nat.le_of_ble_eq_true rfl) rfl ?_
      refine j_aload_n dX10_doubtBy_60 rfl rfl ?_
      refine j_iload dX10_doubtBy_61 rfl rfl ?_
      refine j_iload_n dX10_doubtBy_63 rfl rfl ?_
      refine j_iand dX10_doubtBy_64 rfl ?_
      refine j_cV (as := [.int (((0 ||| (μ.1 r 4)) ||| (μ.1 t 6)) &&& x3)]) (rest := []) dX10_doubtBy_65 rfl vw_X10_61 (hG 12 (15, 11) rfl) rfl ⟨Nat.le_of_ble_eq_true rfl, Nat.le_of_ble_eq_true rfl⟩ rfl rfl (fun _ _ => Nat.le_of_ble_eq_true rfl) (e3 c0 c2) (fun r μ' hr => ?_)
      obtain ⟨rfl, hr⟩ := hr
      refine j_forget (ls' := [.null, .null, .null, .null, .null]) ⟨Or.inl rfl, Or.inl rfl, Or.inr rfl, Or.inl rfl, Or.inl rfl, trivial⟩ ?_
      exact k3 c0 c2 μ' hr
theorem b_X10_doubtBy_68 {l : Launch} {G : jG} {μ : jM} {φ : jM → Prop} (hG : gGG G) (hP : gPP μ) 
    (k0 : φ μ) :
    J l mX10_doubtBy (jZ0 1 G (pV φ)) G 0 0 68 [.null, .null, .null, .null, .null] [] μ := by
  exact j_vret dX10_doubtBy_68 rfl (k0 )
theorem b_X10_doubt_0 {l : Launch} {G : jG} {μ : jM} {φ : jM → Prop} {x1 : Int32} (hG : gGG G) (hP : gPP μ) 
    (k0 : J l mX10_doubt (jZ0 0 G (pV φ)) G 0 0 2 [.ref 12, .int x1, .int 0] [] μ) :
    J l mX10_doubt (jZ0 0 G (pV φ)) G 0 0 0 [.ref 12, .int x1, .null] [] μ := by
  refine j_iconst 0 dX10_doubt_0 rfl (by decide) ?_
  refine j_istore_n (ls' := [.ref 12, .int x1, .int 0]) dX10_doubt_1 rfl rfl (Nat.le_of_ble_eq_true rfl) rfl ?_
  exact k0 
theorem b_X10_doubt_2 {l : Launch} {G : jG} {μ : jM} {φ : jM → Prop} {x1 x2 : Int32} {t y : Nat} (hG : gGG G) (hP : gPP μ) (ht : tO gTold pTold G μ t) (hy : tO gWay pWay G μ y) (q12_0 : μ.2.2 12 0 = some t) 
    (k0 : (x1 = (0 : Int32)) → φ μ) 
    (k1 : (¬ (x1 = (0 : Int32))) → ((μ.1 t 2) ≤ (x2 : Int32)) → φ μ) 
    (o0 : (¬ (x1 = (0 : Int32))) → (¬ ((μ.1 t 2) ≤ (x2 : Int32))) → vp_in x2 7) 
    (o1 : (¬ (x1 = (0 : Int32))) → (¬ ((μ.1 t 2) ≤ (x2 : Int32))) → μ.2.2 13 (Int32.toNatClampNeg x2) = some y) 
    (k2 : (¬ (x1 = (0 : Int32))) → (¬ ((μ.1 t 2) ≤ (x2 : Int32))) → J l mX10_doubt (jZ0 0 G (pV φ)) G 0 0 2 [.ref 12, .int x1, .int (x2 + 1)] [] (wI μ y 1 ((μ.1 y 1) ||| x1))) :
    J l mX10_doubt (jZ0 0 G (pV φ)) G 0 0 2 [.ref 12, .int x1, .int x2] [] μ := by
  refine j_iload_n dX10_doubt_2 rfl rfl ?_
  refine j_if_eq 38 dX10_doubt_3 rfl (by decide) (fun c0 => ?_) (fun c0 => ?_)
  · skip
    exact j_vret dX10_doubt_38 rfl (k0 c0)
  · skip
    refine j_iload_n dX10_doubt_6 rfl rfl ?_
    refine j_aload_n dX10_doubt_7 rfl rfl ?_
    refine j_getR (ci := 10) (N := 11) (f := 0) (T := TX10) t dX10_doubt_8 rfl (hG 12 (15, 11) rfl) rfl (by decide) fl_X10_30 rfl q12_0 ?_
    refine j_getI (ci := 8) (N := 20) (f := 2) (T := TX8) dX10_doubt_11 rfl (ht.1 0 (13, 20) rfl) rfl (by decide) fl_X10_71 rfl ?_
    refine j_icmp_ge 38 dX10_doubt_14 rfl (by decide) (fun c1 => ?_) (fun c1 => ?_)
    · skip
      exact j_vret dX10_doubt_38 rfl (k1 c0 c1)
    · skip
      refine j_aload_n dX10_doubt_17 rfl rfl ?_
      refine j_getR (ci := 10) (N := 11) (f := 3) (T := TX10) 13 dX10_doubt_18 rfl (hG 12 (15, 11) rfl) rfl (by decide) fl_X10_11 rfl (hP 12 3 13 rfl) ?_
      refine j_iload_n dX10_doubt_21 rfl rfl ?_
      refine j_aald' (j := (Int32.toNatClampNeg x2)) dX10_doubt_22 rfl (hG 13 (4, 7) rfl) (o0 c0 c1) rfl (o1 c0 c1) ?_
      refine j_dup dX10_doubt_23 rfl (fun _ _ => rfl) ?_
      refine j_getI (ci := 9) (N := 9) (f := 1) (T := TX9) dX10_doubt_24 rfl (hy.1 0 (14, 9) rfl) rfl (by decide) fl_X10_87 rfl ?_
      refine j_iload_n dX10_doubt_27 rfl rfl ?_
      refine j_ior dX10_doubt_28 rfl ?_
      refine j_putI (ci := 9) (N := 9) (f := 1) (T := TX9) dX10_doubt_29 rfl (hy.1 0 (14, 9) rfl) rfl (by decide) fl_X10_87 rfl rfl ?_
      refine j_iinc (x2 + 1) (ls' := [.ref 12, .int x1, .int (x2 + 1)]) dX10_doubt_32 rfl rfl rfl (Nat.le_of_ble_eq_true rfl) rfl ?_
      refine j_goto 2 dX10_doubt_35 (by decide) ?_
      exact k2 c0 c1
theorem b_X10_lookAtNight_0 {l : Launch} {G : jG} {μ : jM} {φ : jM → Prop} {ψ0 : jM → Prop} {ψ1 : Int32 → jM → Prop} {r t : Nat} (hG : gGG G) (hP : gPP μ) (hgr : G[r]? = some (0, 71)) (ht : tO gTold pTold G μ t) (q12_0 : μ.2.2 12 0 = some t) (q12_5 : μ.2.2 12 5 = some r) 
    (e0 : ((μ.1 t 16) ≤ (0 : Int32)) → jC0 l mX10_doubtBy 1 G [.ref 12, .long ((μ.2.1 12 6) ^^^ (((Int32.toInt64 (μ.1 r 0)) <<< (Int32.toInt64 32 &&& 63)) + ((Int32.toInt64 0) <<< (Int32.toInt64 28 &&& 63)))), .int (-1)] (wL (wI μ 12 1 0) 12 6 (((Int32.toInt64 (μ.1 r 0)) <<< (Int32.toInt64 32 &&& 63)) + ((Int32.toInt64 0) <<< (Int32.toInt64 28 &&& 63)))) (pV ψ0)) 
    (k0 : ((μ.1 t 16) ≤ (0 : Int32)) → ∀ μ', ψ0 μ' → J l mX10_lookAtNight (jZ0 2 G (pV φ)) G 0 0 82 [.ref 12, .null, .null, .null, .null, .null, .null] [] μ') 
    (e1 : (¬ ((μ.1 t 16) ≤ (0 : Int32))) → jC0 l mX10_lot 1 G [.int 100, .int (μ.1 r 5), .int (μ.1 r 0)] μ (pI ψ1)) 
    (k1 : (¬ ((μ.1 t 16) ≤ (0 : Int32))) → ∀ v μ', ψ1 v μ' → J l mX10_lookAtNight (jZ0 2 G (pV φ)) G 0 0 35 [.ref 12, .int (μ.1 r 0), .long (μ.2.1 12 6), .null, .null, .null, .null] [.int v, .ref 12] μ') :
    J l mX10_lookAtNight (jZ0 2 G (pV φ)) G 0 0 0 [.ref 12, .null, .null, .null, .null, .null, .null] [] μ := by
  refine j_aload_n dX10_lookAtNight_0 rfl rfl ?_
  refine j_getR (ci := 10) (N := 11) (f := 5) (T := TX10) r dX10_lookAtNight_1 rfl (hG 12 (15, 11) rfl) rfl (by decide) fl_X10_49 rfl q12_5 ?_
  refine j_iconst 0 dX10_lookAtNight_4 rfl (by decide) ?_
  refine j_iald' (j := 0) dX10_lookAtNight_5 rfl hgr (vpK (by decide)) (by decide) ?_
  refine j_istore_n (ls' := [.ref 12, .int (μ.1 r 0), .null, .null, .null, .null, .null]) dX10_lookAtNight_6 rfl rfl (Nat.le_of_ble_eq_true rfl) rfl ?_
  refine j_aload_n dX10_lookAtNight_7 rfl rfl ?_
  refine j_getL (ci := 10) (N := 11) (f := 6) (T := TX10) dX10_lookAtNight_8 rfl (hG 12 (15, 11) rfl) rfl (by decide) fl_X10_155 rfl ?_
  refine j_lstore_n (ls' := [.ref 12, .int (μ.1 r 0), .long (μ.2.1 12 6), .null, .null, .null, .null]) dX10_lookAtNight_11 rfl rfl (Nat.le_of_ble_eq_true rfl) rfl ?_
  refine j_aload_n dX10_lookAtNight_12 rfl rfl ?_
  refine j_aload_n dX10_lookAtNight_13 rfl rfl ?_
  refine j_getR (ci := 10) (N := 11) (f := 0) (T := TX10) t dX10_lookAtNight_14 rfl (hG 12 (15, 11) rfl) rfl (by decide) fl_X10_30 rfl q12_0 ?_
  refine j_getI (ci := 8) (N := 20) (f := 16) (T := TX8) dX10_lookAtNight_17 rfl (ht.1 0 (13, 20) rfl) rfl (by decide) fl_X10_158 rfl ?_
  refine j_if_le 49 dX10_lookAtNight_20 rfl (by decide) (fun c0 => ?_) (fun c0 => ?_)
  · skip
    refine j_iconst 0 dX10_lookAtNight_49 rfl (by decide) ?_
    refine j_putI (ci := 10) (N := 11) (f := 1) (T := TX10) dX10_lookAtNight_50 rfl (hG 12 (15, 11) rfl) rfl (by decide) fl_X10_165 rfl rfl ?_
    refine j_aload_n dX10_lookAtNight_53 rfl rfl ?_
    refine j_iload_n dX10_lookAtNight_54 rfl rfl ?_
    refine j_i2l dX10_lookAtNight_55 rfl ?_
    refine j_bipush 32 dX10_lookAtNight_56 rfl (by decide) ?_
    refine j_lshl dX10_lookAtNight_58 rfl ?_
    refine j_aload_n dX10_lookAtNight_59 rfl rfl ?_
    refine j_getI (ci := 10) (N := 11) (f := 1) (T := TX10) dX10_lookAtNight_60 rfl (hG 12 (15, 11) rfl) rfl (by decide) fl_X10_165 rfl ?_
    refine j_i2l dX10_lookAtNight_63 rfl ?_
    refine j_bipush 28 dX10_lookAtNight_64 rfl (by decide) ?_
    refine j_lshl dX10_lookAtNight_66 rfl ?_
    refine j_ladd dX10_lookAtNight_67 rfl ?_
    refine j_putL (ci := 10) (N := 11) (f := 6) (T := TX10) dX10_lookAtNight_68 rfl (hG 12 (15, 11) rfl) rfl (by decide) fl_X10_155 rfl rfl ?_
    refine j_aload_n dX10_lookAtNight_71 rfl rfl ?_
    refine j_lload_n dX10_lookAtNight_72 rfl rfl ?_
    refine j_aload_n dX10_lookAtNight_73 rfl rfl ?_
    refine j_getL (ci := 10) (N := 11) (f := 6) (T := TX10) dX10_lookAtNight_74 rfl (hG 12 (15, 11) rfl) rfl (by decide) fl_X10_155 rfl ?_
    refine j_lxor dX10_lookAtNight_77 rfl ?_
    refine j_iconst (-1) dX10_lookAtNight_78 rfl (by decide) ?_
    refine j_cV (as := [.long ((μ.2.1 12 6) ^^^ (((Int32.toInt64 (μ.1 r 0)) <<< (Int32.toInt64 32 &&& 63)) + ((Int32.toInt64 0) <<< (Int32.toInt64 28 &&& 63)))), .int (-1)]) (rest := []) dX10_lookAtNight_79 rfl vw_X10_148 (hG 12 (15, 11) rfl) rfl ⟨Nat.le_of_ble_eq_true rfl, Nat.le_of_ble_eq_true rfl⟩ rfl rfl (fun _ _ => Nat.le_of_ble_eq_true rfl) (e0 c0) (fun r μ' hr => ?_)
    obtain ⟨rfl, hr⟩ := hr
    refine j_forget (ls' := [.ref 12, .null, .null, .null, .null, .null, .null]) ⟨Or.inr rfl, Or.inl rfl, Or.inl rfl, Or.inr rfl, Or.inr rfl, Or.inr rfl, Or.inr rfl, trivial⟩ ?_
    exact k0 c0 μ' hr
  · skip
    refine j_bipush 100 dX10_lookAtNight_23 rfl (by decide) ?_
    refine j_aload_n dX10_lookAtNight_25 rfl rfl ?_
    refine j_getR (ci := 10) (N := 11) (f := 5) (T := TX10) r dX10_lookAtNight_26 rfl (hG 12 (15, 11) rfl) rfl (by decide) fl_X10_49 rfl q12_5 ?_
    refine j_iconst 5 dX10_lookAtNight_29 rfl (by decide) ?_
    refine j_iald' (j := 5) dX10_lookAtNight_30 rfl hgr (vpK (by decide)) (by decide) ?_
    refine j_iload_n dX10_lookAtNight_31 rfl rfl ?_
    refine j_cS (as := [.int 100, .int (μ.1 r 5), .int (μ.1 r 0)]) (rest := [.ref 12]) dX10_lookAtNight_32 rfl vw_X10_161 ⟨Nat.le_of_ble_eq_true rfl, Nat.le_of_ble_eq_true rfl⟩ rfl rfl (fun _ _ => Nat.le_of_ble_eq_true rfl) (e1 c0) (fun r μ' hr => ?_)
    obtain ⟨v, rfl, hr⟩ := hr
    exact k1 c0 v μ' hr
theorem b_X10_lookAtNight_35 {l : Launch} {G : jG} {μ : jM} {φ : jM → Prop} {x1 z0 : Int32} {x2 : Int64} {ψ0 : jM → Prop} {ψ1 : jM → Prop} {t : Nat} (hG : gGG G) (hP : gPP μ) (ht : tO gTold pTold G μ t) (q12_0 : μ.2.2 12 0 = some t) 
    (e0 : ((μ.1 t 16) ≤ (z0 : Int32)) → jC0 l mX10_doubtBy 1 G [.ref 12, .long (x2 ^^^ (((Int32.toInt64 x1) <<< (Int32.toInt64 32 &&& 63)) + ((Int32.toInt64 0) <<< (Int32.toInt64 28 &&& 63)))), .int (-1)] (wL (wI μ 12 1 0) 12 6 (((Int32.toInt64 x1) <<< (Int32.toInt64 32 &&& 63)) + ((Int32.toInt64 0) <<< (Int32.toInt64 28 &&& 63)))) (pV ψ0)) 
    (k0 : ((μ.1 t 16) ≤ (z0 : Int32)) → ∀ μ', ψ0 μ' → J l mX10_lookAtNight (jZ0 2 G (pV φ)) G 0 0 82 [.ref 12, .null, .null, .null, .null, .null, .null] [] μ') 
    (e1 : (¬ ((μ.1 t 16) ≤ (z0 : Int32))) → jC0 l mX10_doubtBy 1 G [.ref 12, .long (x2 ^^^ (((Int32.toInt64 x1) <<< (Int32.toInt64 32 &&& 63)) + ((Int32.toInt64 1) <<< (Int32.toInt64 28 &&& 63)))), .int (-1)] (wL (wI μ 12 1 1) 12 6 (((Int32.toInt64 x1) <<< (Int32.toInt64 32 &&& 63)) + ((Int32.toInt64 1) <<< (Int32.toInt64 28 &&& 63)))) (pV ψ1)) 
    (k1 : (¬ ((μ.1 t 16) ≤ (z0 : Int32))) → ∀ μ', ψ1 μ' → J l mX10_lookAtNight (jZ0 2 G (pV φ)) G 0 0 82 [.ref 12, .null, .null, .null, .null, .null, .null] [] μ') :
    J l mX10_lookAtNight (jZ0 2 G (pV φ)) G 0 0 35 [.ref 12, .int x1, .long x2, .null, .null, .null, .null] [.int z0, .ref 12] μ := by
  refine j_aload_n dX10_lookAtNight_35 rfl rfl ?_
  refine j_getR (ci := 10) (N := 11) (f := 0) (T := TX10) t dX10_lookAtNight_36 rfl (hG 12 (15, 11) rfl) rfl (by decide) fl_X10_30 rfl q12_0 ?_
  refine j_getI (ci := 8) (N := 20) (f := 16) (T := TX8) dX10_lookAtNight_39 rfl (ht.1 0 (13, 20) rfl) rfl (by decide) fl_X10_158 rfl ?_
  refine j_icmp_ge 49 dX10_lookAtNight_42 rfl (by decide) (fun c0 => ?_) (fun c0 => ?_)
  · skip
    refine j_iconst 0 dX10_lookAtNight_49 rfl (by decide) ?_
    refine j_putI (ci := 10) (N := 11) (f := 1) (T := TX10) dX10_lookAtNight_50 rfl (hG 12 (15, 11) rfl) rfl (by decide) fl_X10_165 rfl rfl ?_
    refine j_aload_n dX10_lookAtNight_53 rfl rfl ?_
    refine j_iload_n dX10_lookAtNight_54 rfl rfl ?_
    refine j_i2l dX10_lookAtNight_55 rfl ?_
    refine j_bipush 32 dX10_lookAtNight_56 rfl (by decide) ?_
    refine j_lshl dX10_lookAtNight_58 rfl ?_
    refine j_aload_n dX10_lookAtNight_59 rfl rfl ?_
    refine j_getI (ci := 10) (N := 11) (f := 1) (T := TX10) dX10_lookAtNight_60 rfl (hG 12 (15, 11) rfl) rfl (by decide) fl_X10_165 rfl ?_
    refine j_i2l dX10_lookAtNight_63 rfl ?_
    refine j_bipush 28 dX10_lookAtNight_64 rfl (by decide) ?_
    refine j_lshl dX10_lookAtNight_66 rfl ?_
    refine j_ladd dX10_lookAtNight_67 rfl ?_
    refine j_putL (ci := 10) (N := 11) (f := 6) (T := TX10) dX10_lookAtNight_68 rfl (hG 12 (15, 11) rfl) rfl (by decide) fl_X10_155 rfl rfl ?_
    refine j_aload_n dX10_lookAtNight_71 rfl rfl ?_
    refine j_lload_n dX10_lookAtNight_72 rfl rfl ?_
    refine j_aload_n dX10_lookAtNight_73 rfl rfl ?_
    refine j_getL (ci := 10) (N := 11) (f := 6) (T := TX10) dX10_lookAtNight_74 rfl (hG 12 (15, 11) rfl) rfl (by decide) fl_X10_155 rfl ?_
    refine j_lxor dX10_lookAtNight_77 rfl ?_
    refine j_iconst (-1) dX10_lookAtNight_78 rfl (by decide) ?_
    refine j_cV (as := [.long (x2 ^^^ (((Int32.toInt64 x1) <<< (Int32.toInt64 32 &&& 63)) + ((Int32.toInt64 0) <<< (Int32.toInt64 28 &&& 63)))), .int (-1)]) (rest := []) dX10_lookAtNight_79 rfl vw_X10_148 (hG 12 (15, 11) rfl) rfl ⟨Nat.le_of_ble_eq_true rfl, Nat.le_of_ble_eq_true rfl⟩ rfl rfl (fun _ _ => Nat.le_of_ble_eq_true rfl) (e0 c0) (fun r μ' hr => ?_)
    obtain ⟨rfl, hr⟩ := hr
    refine j_forget (ls' := [.ref 12, .null, .null, .null, .null, .null, .null]) ⟨Or.inr rfl, Or.inl rfl, Or.inl rfl, Or.inr rfl, Or.inr rfl, Or.inr rfl, Or.inr rfl, trivial⟩ ?_
    exact k0 c0 μ' hr
  · skip
    refine j_iconst 1 dX10_lookAtNight_45 rfl (by decide) ?_
    refine j_goto 50 dX10_lookAtNight_46 (by decide) ?_
    refine j_putI (ci := 10) (N := 11) (f := 1) (T := TX10) dX10_lookAtNight_50 rfl (hG 12 (15, 11) rfl) rfl (by decide) fl_X10_165 rfl rfl ?_
    refine j_aload_n dX10_lookAtNight_53 rfl rfl ?_
    refine j_iload_n dX10_lookAtNight_54 rfl rfl ?_
    refine j_i2l dX10_lookAtNight_55 rfl ?_
    refine j_bipush 32 dX10_lookAtNight_56 rfl (by decide) ?_
    refine j_lshl dX10_lookAtNight_58 rfl ?_
    refine j_aload_n dX10_lookAtNight_59 rfl rfl ?_
    refine j_getI (ci := 10) (N := 11) (f := 1) (T := TX10) dX10_lookAtNight_60 rfl (hG 12 (15, 11) rfl) rfl (by decide) fl_X10_165 rfl ?_
    refine j_i2l dX10_lookAtNight_63 rfl ?_
    refine j_bipush 28 dX10_lookAtNight_64 rfl (by decide) ?_
    refine j_lshl dX10_lookAtNight_66 rfl ?_
    refine j_ladd dX10_lookAtNight_67 rfl ?_
    refine j_putL (ci := 10) (N := 11) (f := 6) (T := TX10) dX10_lookAtNight_68 rfl (hG 12 (15, 11) rfl) rfl (by decide) fl_X10_155 rfl rfl ?_
    refine j_aload_n dX10_lookAtNight_71 rfl rfl ?_
    refine j_lload_n dX10_lookAtNight_72 rfl rfl ?_
    refine j_aload_n dX10_lookAtNight_73 rfl rfl ?_
    refine j_getL (ci := 10) (N := 11) (f := 6) (T := TX10) dX10_lookAtNight_74 rfl (hG 12 (15, 11) rfl) rfl (by decide) fl_X10_155 rfl ?_
    refine j_lxor dX10_lookAtNight_77 rfl ?_
    refine j_iconst (-1) dX10_lookAtNight_78 rfl (by decide) ?_
    refine j_cV (as := [.long (x2 ^^^ (((Int32.toInt64 x1) <<< (Int32.toInt64 32 &&& 63)) + ((Int32.toInt64 1) <<< (Int32.toInt64 28 &&& 63)))), .int (-1)]) (rest := []) dX10_lookAtNight_79 rfl vw_X10_148 (hG 12 (15, 11) rfl) rfl ⟨Nat.le_of_ble_eq_true rfl, Nat.le_of_ble_eq_true rfl⟩ rfl rfl (fun _ _ => Nat.le_of_ble_eq_true rfl) (e1 c0) (fun r μ' hr => ?_)
    obtain ⟨rfl, hr⟩ := hr
    refine j_forget (ls' := [.ref 12, .null, .null, .null, .null, .null, .null]) ⟨Or.inr rfl, Or.inl rfl, Or.inl rfl, Or.inr rfl, Or.inr rfl, Or.inr rfl, Or.inr rfl, trivial⟩ ?_
    exact k1 c0 μ' hr
theorem b_X10_lookAtNight_82 {l : Launch} {G : jG} {μ : jM} {φ : jM → Prop} {t : Nat} (hG : gGG G) (hP : gPP μ) (ht : tO gTold pTold G μ t) (q12_0 : μ.2.2 12 0 = some t) 
    (k0 : ((lg_cmp ((μ.2.1 12 6) &&& (μ.2.1 (t + 17) 0)) (μ.2.1 12 7)) = (0 : Int32)) → φ μ) 
    (k1 : (¬ ((lg_cmp ((μ.2.1 12 6) &&& (μ.2.1 (t + 17) 0)) (μ.2.1 12 7)) = (0 : Int32))) → J l mX10_lookAtNight (jZ0 2 G (pV φ)) G 0 0 118 [.ref 12, .null, .null, .null, .null, .null, .int 0] [] (wL μ 12 7 ((μ.2.1 12 6) &&& (μ.2.1 (t + 17) 0)))) :
    J l mX10_lookAtNight (jZ0 2 G (pV φ)) G 0 0 82 [.ref 12, .null, .null, .null, .null, .null, .null] [] μ := by
  refine j_aload_n dX10_lookAtNight_82 rfl rfl ?_
  refine j_getL (ci := 10) (N := 11) (f := 6) (T := TX10) dX10_lookAtNight_83 rfl (hG 12 (15, 11) rfl) rfl (by decide) fl_X10_155 rfl ?_
  refine j_aload_n dX10_lookAtNight_86 rfl rfl ?_
  refine j_getR (ci := 10) (N := 11) (f := 0) (T := TX10) t dX10_lookAtNight_87 rfl (hG 12 (15, 11) rfl) rfl (by decide) fl_X10_30 rfl q12_0 ?_
  refine j_getR (ci := 8) (N := 20) (f := 15) (T := TX8) (t + 17) dX10_lookAtNight_90 rfl (ht.1 0 (13, 20) rfl) rfl (by decide) fl_X10_168 rfl (ht.2 0 15 17 rfl) ?_
  refine j_getL (ci := 2) (N := 6) (f := 0) (T := TX2) dX10_lookAtNight_93 rfl (ht.1 17 (7, 6) rfl) rfl (by decide) fl_X10_152 rfl ?_
  refine j_land dX10_lookAtNight_96 rfl ?_
  refine j_lstore (ls' := [.ref 12, .null, .null, .null, .long ((μ.2.1 12 6) &&& (μ.2.1 (t + 17) 0)), .null, .null]) dX10_lookAtNight_97 rfl (Nat.le_of_ble_eq_true rfl) rfl ?_
  refine j_lload dX10_lookAtNight_99 rfl rfl ?_
  refine j_aload_n dX10_lookAtNight_101 rfl rfl ?_
  refine j_getL (ci := 10) (N := 11) (f := 7) (T := TX10) dX10_lookAtNight_102 rfl (hG 12 (15, 11) rfl) rfl (by decide) fl_X10_36 rfl ?_
  refine j_lcmp dX10_lookAtNight_105 rfl ?_
  refine j_if_eq 185 dX10_lookAtNight_106 rfl (by decide) (fun c0 => ?_) (fun c0 => ?_)
  · skip
    exact j_vret dX10_lookAtNight_185 rfl (k0 c0)
  · skip
    refine j_aload_n dX10_lookAtNight_109 rfl rfl ?_
    refine j_lload dX10_lookAtNight_110 rfl rfl ?_
    refine j_putL (ci := 10) (N := 11) (f := 7) (T := TX10) dX10_lookAtNight_112 rfl (hG 12 (15, 11) rfl) rfl (by decide) fl_X10_36 rfl rfl ?_
    refine j_iconst 0 dX10_lookAtNight_115 rfl (by decide) ?_
    refine j_istore (ls' := [.ref 12, .null, .null, .null, .long ((μ.2.1 12 6) &&& (μ.2.1 (t + 17) 0)), .null, .int 0]) dX10_lookAtNight_116 rfl (Nat.le_of_ble_eq_true rfl) rfl ?_
    refine j_forget (ls' := [.ref 12, .null, .null, .null, .null, .null, .int 0]) ⟨Or.inr rfl, Or.inr rfl, Or.inr rfl, Or.inr rfl, Or.inl rfl, Or.inr rfl, Or.inr rfl, trivial⟩ ?_
    exact k1 c0
theorem b_X10_lookAtNight_118 {l : Launch} {G : jG} {μ : jM} {φ : jM → Prop} {x6 : Int32} {ψ0 : Int32 → jM → Prop} {ψ1 : Int32 → jM → Prop} {t : Nat} (hG : gGG G) (hP : gPP μ) (ht : tO gTold pTold G μ t) (q12_0 : μ.2.2 12 0 = some t) 
    (e0 : ((μ.1 t 1) ≤ (x6 : Int32)) → jC0 l mX10_findBroken 0 G [.ref 12] μ (pI ψ0)) 
    (k0 : ((μ.1 t 1) ≤ (x6 : Int32)) → ∀ v μ', ψ0 v μ' → J l mX10_lookAtNight (jZ0 2 G (pV φ)) G 0 0 171 [.ref 12, .null, .null, .null, .null, .null, .int (μ.1 12 4)] [.int v, .ref 12] μ') 
    (e1 : (¬ ((μ.1 t 1) ≤ (x6 : Int32))) → jC0 l mX10_said 1 G [.ref 12, .ref (t + 17), .int 0, .int x6, .int 999] μ (pI ψ1)) 
    (k1 : (¬ ((μ.1 t 1) ≤ (x6 : Int32))) → ∀ v μ', ψ1 v μ' → J l mX10_lookAtNight (jZ0 2 G (pV φ)) G 0 0 153 [.ref 12, .null, .null, .null, .null, .null, .int x6] [.int v, .int x6, .ref 14] μ') :
    J l mX10_lookAtNight (jZ0 2 G (pV φ)) G 0 0 118 [.ref 12, .null, .null, .null, .null, .null, .int x6] [] μ := by
  refine j_iload dX10_lookAtNight_118 rfl rfl ?_
  refine j_aload_n dX10_lookAtNight_120 rfl rfl ?_
  refine j_getR (ci := 10) (N := 11) (f := 0) (T := TX10) t dX10_lookAtNight_121 rfl (hG 12 (15, 11) rfl) rfl (by decide) fl_X10_30 rfl q12_0 ?_
  refine j_getI (ci := 8) (N := 20) (f := 1) (T := TX8) dX10_lookAtNight_124 rfl (ht.1 0 (13, 20) rfl) rfl (by decide) fl_X10_90 rfl ?_
  refine j_icmp_ge 160 dX10_lookAtNight_127 rfl (by decide) (fun c0 => ?_) (fun c0 => ?_)
  · skip
    refine j_aload_n dX10_lookAtNight_160 rfl rfl ?_
    refine j_getI (ci := 10) (N := 11) (f := 4) (T := TX10) dX10_lookAtNight_161 rfl (hG 12 (15, 11) rfl) rfl (by decide) fl_X10_57 rfl ?_
    refine j_istore (ls' := [.ref 12, .null, .null, .null, .null, .null, .int (μ.1 12 4)]) dX10_lookAtNight_164 rfl (Nat.le_of_ble_eq_true rfl) rfl ?_
    refine j_aload_n dX10_lookAtNight_166 rfl rfl ?_
    refine j_aload_n dX10_lookAtNight_167 rfl rfl ?_
    refine j_cV (as := []) (rest := [.ref 12]) dX10_lookAtNight_168 rfl vw_X10_53 (hG 12 (15, 11) rfl) rfl ⟨Nat.le_of_ble_eq_true rfl, Nat.le_of_ble_eq_true rfl⟩ rfl rfl (fun _ _ => Nat.le_of_ble_eq_true rfl) (e0 c0) (fun r μ' hr => ?_)
    obtain ⟨v, rfl, hr⟩ := hr
    exact k0 c0 v μ' hr
  · skip
    refine j_aload_n dX10_lookAtNight_130 rfl rfl ?_
    refine j_getR (ci := 10) (N := 11) (f := 8) (T := TX10) 14 dX10_lookAtNight_131 rfl (hG 12 (15, 11) rfl) rfl (by decide) fl_X10_17 rfl (hP 12 8 14 rfl) ?_
    refine j_iload dX10_lookAtNight_134 rfl rfl ?_
    refine j_aload_n dX10_lookAtNight_136 rfl rfl ?_
    refine j_aload_n dX10_lookAtNight_137 rfl rfl ?_
    refine j_getR (ci := 10) (N := 11) (f := 0) (T := TX10) t dX10_lookAtNight_138 rfl (hG 12 (15, 11) rfl) rfl (by decide) fl_X10_30 rfl q12_0 ?_
    refine j_getR (ci := 8) (N := 20) (f := 15) (T := TX8) (t + 17) dX10_lookAtNight_141 rfl (ht.1 0 (13, 20) rfl) rfl (by decide) fl_X10_168 rfl (ht.2 0 15 17 rfl) ?_
    refine j_iconst 0 dX10_lookAtNight_144 rfl (by decide) ?_
    refine j_iload dX10_lookAtNight_145 rfl rfl ?_
    refine j_sipush 999 dX10_lookAtNight_147 rfl (by decide) ?_
    refine j_cV (as := [.ref (t + 17), .int 0, .int x6, .int 999]) (rest := [.int x6, .ref 14]) dX10_lookAtNight_150 rfl vw_X10_117 (hG 12 (15, 11) rfl) rfl ⟨Nat.le_of_ble_eq_true rfl, Nat.le_of_ble_eq_true rfl⟩ rfl rfl (fun _ _ => Nat.le_of_ble_eq_true rfl) (e1 c0) (fun r μ' hr => ?_)
    obtain ⟨v, rfl, hr⟩ := hr
    exact k1 c0 v μ' hr
theorem b_X10_lookAtNight_153 {l : Launch} {G : jG} {μ : jM} {φ : jM → Prop} {x6 z0 z1 : Int32} (hG : gGG G) (hP : gPP μ) 
    (o0 : vp_in z1 12) 
    (k0 : J l mX10_lookAtNight (jZ0 2 G (pV φ)) G 0 0 118 [.ref 12, .null, .null, .null, .null, .null, .int (x6 + 1)] [] (wI μ 14 (Int32.toNatClampNeg z1) z0)) :
    J l mX10_lookAtNight (jZ0 2 G (pV φ)) G 0 0 153 [.ref 12, .null, .null, .null, .null, .null, .int x6] [.int z0, .int z1, .ref 14] μ := by
  refine j_iast' (j := (Int32.toNatClampNeg z1)) dX10_lookAtNight_153 rfl (hG 14 (0, 12) rfl) o0 rfl ?_
  refine j_iinc (x6 + 1) (ls' := [.ref 12, .null, .null, .null, .null, .null, .int (x6 + 1)]) dX10_lookAtNight_154 rfl rfl rfl (Nat.le_of_ble_eq_true rfl) rfl ?_
  refine j_goto 118 dX10_lookAtNight_157 (by decide) ?_
  exact k0 
theorem b_X10_lookAtNight_171 {l : Launch} {G : jG} {μ : jM} {φ : jM → Prop} {x6 z0 : Int32} {ψ0 : jM → Prop} (hG : gGG G) (hP : gPP μ) 
    (e0 : jC0 l mX10_doubt 0 G [.ref 12, .int (x6 ^^^ z0)] (wI μ 12 4 z0) (pV ψ0)) 
    (k0 : ∀ μ', ψ0 μ' → J l mX10_lookAtNight (jZ0 2 G (pV φ)) G 0 0 185 [.null, .null, .null, .null, .null, .null, .null] [] μ') :
    J l mX10_lookAtNight (jZ0 2 G (pV φ)) G 0 0 171 [.ref 12, .null, .null, .null, .null, .null, .int x6] [.int z0, .ref 12] μ := by
  refine j_putI (ci := 10) (N := 11) (f := 4) (T := TX10) dX10_lookAtNight_171 rfl (hG 12 (15, 11) rfl) rfl (by decide) fl_X10_57 rfl rfl ?_
  refine j_aload_n dX10_lookAtNight_174 rfl rfl ?_
  refine j_iload dX10_lookAtNight_175 rfl rfl ?_
  refine j_aload_n dX10_lookAtNight_177 rfl rfl ?_
  refine j_getI (ci := 10) (N := 11) (f := 4) (T := TX10) dX10_lookAtNight_178 rfl (hG 12 (15, 11) rfl) rfl (by decide) fl_X10_57 rfl ?_
  refine j_ixor dX10_lookAtNight_181 rfl ?_
  refine j_cV (as := [.int (x6 ^^^ z0)]) (rest := []) dX10_lookAtNight_182 rfl vw_X10_61 (hG 12 (15, 11) rfl) rfl ⟨Nat.le_of_ble_eq_true rfl, Nat.le_of_ble_eq_true rfl⟩ rfl rfl (fun _ _ => Nat.le_of_ble_eq_true rfl) (e0 ) (fun r μ' hr => ?_)
  obtain ⟨rfl, hr⟩ := hr
  refine j_forget (ls' := [.null, .null, .null, .null, .null, .null, .null]) ⟨Or.inl rfl, Or.inr rfl, Or.inr rfl, Or.inr rfl, Or.inr rfl, Or.inr rfl, Or.inl rfl, trivial⟩ ?_
  exact k0  μ' hr
theorem b_X10_lookAtNight_185 {l : Launch} {G : jG} {μ : jM} {φ : jM → Prop} (hG : gGG G) (hP : gPP μ) 
    (k0 : φ μ) :
    J l mX10_lookAtNight (jZ0 2 G (pV φ)) G 0 0 185 [.null, .null, .null, .null, .null, .null, .null] [] μ := by
  exact j_vret dX10_lookAtNight_185 rfl (k0 )
theorem b_X10_said_0 {l : Launch} {G : jG} {μ : jM} {φ : Int32 → jM → Prop} {x2 x3 x4 : Int32} {ψ0 : Int32 → jM → Prop} {r t w : Nat} (hG : gGG G) (hP : gPP μ) (hgr : G[r]? = some (0, 71)) (ht : tO gTold pTold G μ t) (hw : tO gLaw pLaw G μ w) (q12_0 : μ.2.2 12 0 = some t) (q12_5 : μ.2.2 12 5 = some r) 
    (o0 : vp_in (1 + (x3 &&& 1)) 71) 
    (o1 : vp_in (7 + x3) 71) 
    (o2 : vp_in ((x2 * 12) + x3) 84) 
    (o3 : (¬ (lg_cmp (μ.2.1 (w + 1) (Int32.toNatClampNeg ((x2 * 12) + x3))) ((((μ.2.1 12 6) + ((Int32.toInt64 (μ.1 r (Int32.toNatClampNeg (1 + (x3 &&& 1))))) <<< (Int32.toInt64 24 &&& 63))) + (Int32.toInt64 (μ.1 r (Int32.toNatClampNeg (7 + x3))))) &&& (μ.2.1 w 0))) = (0 : Int32)) → vp_in x2 7) 
    (o4 : (¬ (lg_cmp (μ.2.1 (w + 1) (Int32.toNatClampNeg ((x2 * 12) + x3))) ((((μ.2.1 12 6) + ((Int32.toInt64 (μ.1 r (Int32.toNatClampNeg (1 + (x3 &&& 1))))) <<< (Int32.toInt64 24 &&& 63))) + (Int32.toInt64 (μ.1 r (Int32.toNatClampNeg (7 + x3))))) &&& (μ.2.1 w 0))) = (0 : Int32)) → vp_in x3 12) 
    (e0 : (¬ (lg_cmp (μ.2.1 (w + 1) (Int32.toNatClampNeg ((x2 * 12) + x3))) ((((μ.2.1 12 6) + ((Int32.toInt64 (μ.1 r (Int32.toNatClampNeg (1 + (x3 &&& 1))))) <<< (Int32.toInt64 24 &&& 63))) + (Int32.toInt64 (μ.1 r (Int32.toNatClampNeg (7 + x3))))) &&& (μ.2.1 w 0))) = (0 : Int32)) → jC0 l mX2_valueOf 0 G [.ref w, .ref 15, .ref 16] (wI (wI (wI (wI (wI (wI (wI (wI (wI μ 15 0 (μ.1 (t + 6) (Int32.toNatClampNeg x2))) 15 1 ((wI μ 15 0 (μ.1 (t + 6) (Int32.toNatClampNeg x2))).1 (t + 7) (Int32.toNatClampNeg x2))) 15 2 ((wI (wI μ 15 0 (μ.1 (t + 6) (Int32.toNatClampNeg x2))) 15 1 ((wI μ 15 0 (μ.1 (t + 6) (Int32.toNatClampNeg x2))).1 (t + 7) (Int32.toNatClampNeg x2))).1 (t + 8) (Int32.toNatClampNeg x2))) 15 3 (μ.1 12 1)) 15 4 (μ.1 r (Int32.toNatClampNeg (1 + (x3 &&& 1))))) 15 5 ((wI (wI (wI (wI (wI μ 15 0 (μ.1 (t + 6) (Int32.toNatClampNeg x2))) 15 1 ((wI μ 15 0 (μ.1 (t + 6) (Int32.toNatClampNeg x2))).1 (t + 7) (Int32.toNatClampNeg x2))) 15 2 ((wI (wI μ 15 0 (μ.1 (t + 6) (Int32.toNatClampNeg x2))) 15 1 ((wI μ 15 0 (μ.1 (t + 6) (Int32.toNatClampNeg x2))).1 (t + 7) (Int32.toNatClampNeg x2))).1 (t + 8) (Int32.toNatClampNeg x2))) 15 3 (μ.1 12 1)) 15 4 (μ.1 r (Int32.toNatClampNeg (1 + (x3 &&& 1))))).1 (t + 3) (Int32.toNatClampNeg x3))) 15 6 (μ.1 r (Int32.toNatClampNeg (7 + x3)))) 15 7 x3) 15 8 ((wI (wI (wI (wI (wI (wI (wI (wI μ 15 0 (μ.1 (t + 6) (Int32.toNatClampNeg x2))) 15 1 ((wI μ 15 0 (μ.1 (t + 6) (Int32.toNatClampNeg x2))).1 (t + 7) (Int32.toNatClampNeg x2))) 15 2 ((wI (wI μ 15 0 (μ.1 (t + 6) (Int32.toNatClampNeg x2))) 15 1 ((wI μ 15 0 (μ.1 (t + 6) (Int32.toNatClampNeg x2))).1 (t + 7) (Int32.toNatClampNeg x2))).1 (t + 8) (Int32.toNatClampNeg x2))) 15 3 (μ.1 12 1)) 15 4 (μ.1 r (Int32.toNatClampNeg (1 + (x3 &&& 1))))) 15 5 ((wI (wI (wI (wI (wI μ 15 0 (μ.1 (t + 6) (Int32.toNatClampNeg x2))) 15 1 ((wI μ 15 0 (μ.1 (t + 6) (Int32.toNatClampNeg x2))).1 (t + 7) (Int32.toNatClampNeg x2))) 15 2 ((wI (wI μ 15 0 (μ.1 (t + 6) (Int32.toNatClampNeg x2))) 15 1 ((wI μ 15 0 (μ.1 (t + 6) (Int32.toNatClampNeg x2))).1 (t + 7) (Int32.toNatClampNeg x2))).1 (t + 8) (Int32.toNatClampNeg x2))) 15 3 (μ.1 12 1)) 15 4 (μ.1 r (Int32.toNatClampNeg (1 + (x3 &&& 1))))).1 (t + 3) (Int32.toNatClampNeg x3))) 15 6 (μ.1 r (Int32.toNatClampNeg (7 + x3)))) 15 7 x3).1 r 0)) (pI ψ0)) 
    (k0 : (¬ (lg_cmp (μ.2.1 (w + 1) (Int32.toNatClampNeg ((x2 * 12) + x3))) ((((μ.2.1 12 6) + ((Int32.toInt64 (μ.1 r (Int32.toNatClampNeg (1 + (x3 &&& 1))))) <<< (Int32.toInt64 24 &&& 63))) + (Int32.toInt64 (μ.1 r (Int32.toNatClampNeg (7 + x3))))) &&& (μ.2.1 w 0))) = (0 : Int32)) → ∀ v μ', ψ0 v μ' → J l mX10_said (jZ0 1 G (pI φ)) G 0 0 197 [.null, .ref w, .null, .null, .null, .null, .null, .long ((((μ.2.1 12 6) + ((Int32.toInt64 (μ.1 r (Int32.toNatClampNeg (1 + (x3 &&& 1))))) <<< (Int32.toInt64 24 &&& 63))) + (Int32.toInt64 (μ.1 r (Int32.toNatClampNeg (7 + x3))))) &&& (μ.2.1 w 0)), .null, .int ((x2 * 12) + x3), .null] [.int v, .int x4, .int 0] μ') 
    (k1 : ((lg_cmp (μ.2.1 (w + 1) (Int32.toNatClampNeg ((x2 * 12) + x3))) ((((μ.2.1 12 6) + ((Int32.toInt64 (μ.1 r (Int32.toNatClampNeg (1 + (x3 &&& 1))))) <<< (Int32.toInt64 24 &&& 63))) + (Int32.toInt64 (μ.1 r (Int32.toNatClampNeg (7 + x3))))) &&& (μ.2.1 w 0))) = (0 : Int32)) → φ (μ.1 (w + 2) (Int32.toNatClampNeg ((x2 * 12) + x3))) μ) :
    J l mX10_said (jZ0 1 G (pI φ)) G 0 0 0 [.ref 12, .ref w, .int x2, .int x3, .int x4, .null, .null, .null, .null, .null, .null] [] μ := by
  refine j_aload_n dX10_said_0 rfl rfl ?_
  refine j_getR (ci := 10) (N := 11) (f := 5) (T := TX10) r dX10_said_1 rfl (hG 12 (15, 11) rfl) rfl (by decide) fl_X10_49 rfl q12_5 ?_
  refine j_iconst 1 dX10_said_4 rfl (by decide) ?_
  refine j_iload_n dX10_said_5 rfl rfl ?_
  refine j_iconst 1 dX10_said_6 rfl (by decide) ?_
  refine j_iand dX10_said_7 rfl ?_
  refine j_iadd dX10_said_8 rfl ?_
  refine j_iald' (j := (Int32.toNatClampNeg (1 + (x3 &&& 1)))) dX10_said_9 rfl hgr o0 rfl ?_
  refine j_istore (ls' := [.ref 12, .ref w, .int x2, .int x3, .int x4, .int (μ.1 r (Int32.toNatClampNeg (1 + (x3 &&& 1)))), .null, .null, .null, .null, .null]) dX10_said_10 rfl (Nat.le_of_ble_eq_true rfl) rfl ?_
  refine j_aload_n dX10_said_12 rfl rfl ?_
  refine j_getR (ci := 10) (N := 11) (f := 5) (T := TX10) r dX10_said_13 rfl (hG 12 (15, 11) rfl) rfl (by decide) fl_X10_49 rfl q12_5 ?_
  refine j_bipush 7 dX10_said_16 rfl (by decide) ?_
  refine j_iload_n dX10_said_18 rfl rfl ?_
  refine j_iadd dX10_said_19 rfl ?_
  refine j_iald' (j := (Int32.toNatClampNeg (7 + x3))) dX10_said_20 rfl hgr o1 rfl ?_
  refine j_istore (ls' := [.ref 12, .ref w, .int x2, .int x3, .int x4, .int (μ.1 r (Int32.toNatClampNeg (1 + (x3 &&& 1)))), .int (μ.1 r (Int32.toNatClampNeg (7 + x3))), .null, .null, .null, .null]) dX10_said_21 rfl (Nat.le_of_ble_eq_true rfl) rfl ?_
  refine j_aload_n dX10_said_23 rfl rfl ?_
  refine j_getL (ci := 10) (N := 11) (f := 6) (T := TX10) dX10_said_24 rfl (hG 12 (15, 11) rfl) rfl (by decide) fl_X10_155 rfl ?_
  refine j_iload dX10_said_27 rfl rfl ?_
  refine j_i2l dX10_said_29 rfl ?_
  refine j_bipush 24 dX10_said_30 rfl (by decide) ?_
  refine j_lshl dX10_said_32 rfl ?_
  refine j_ladd dX10_said_33 rfl ?_
  refine j_iload dX10_said_34 rfl rfl ?_
  refine j_i2l dX10_said_36 rfl ?_
  refine j_ladd dX10_said_37 rfl ?_
  refine j_aload_n dX10_said_38 rfl rfl ?_
  refine j_getL (ci := 2) (N := 6) (f := 0) (T := TX2) dX10_said_39 rfl (hw.1 0 (7, 6) rfl) rfl (by decide) fl_X10_152 rfl ?_
  refine j_land dX10_said_42 rfl ?_
  refine j_lstore (ls' := [.ref 12, .ref w, .int x2, .int x3, .int x4, .int (μ.1 r (Int32.toNatClampNeg (1 + (x3 &&& 1)))), .int (μ.1 r (Int32.toNatClampNeg (7 + x3))), .long ((((μ.2.1 12 6) + ((Int32.toInt64 (μ.1 r (Int32.toNatClampNeg (1 + (x3 &&& 1))))) <<< (Int32.toInt64 24 &&& 63))) + (Int32.toInt64 (μ.1 r (Int32.toNatClampNeg (7 + x3))))) &&& (μ.2.1 w 0)), .null, .null, .null]) dX10_said_43 rfl (Nat.le_of_ble_eq_true rfl) rfl ?_
  refine j_iload_n dX10_said_45 rfl rfl ?_
  refine j_bipush 12 dX10_said_46 rfl (by decide) ?_
  refine j_imul dX10_said_48 rfl ?_
  refine j_iload_n dX10_said_49 rfl rfl ?_
  refine j_iadd dX10_said_50 rfl ?_
  refine j_istore (ls' := [.ref 12, .ref w, .int x2, .int x3, .int x4, .int (μ.1 r (Int32.toNatClampNeg (1 + (x3 &&& 1)))), .int (μ.1 r (Int32.toNatClampNeg (7 + x3))), .long ((((μ.2.1 12 6) + ((Int32.toInt64 (μ.1 r (Int32.toNatClampNeg (1 + (x3 &&& 1))))) <<< (Int32.toInt64 24 &&& 63))) + (Int32.toInt64 (μ.1 r (Int32.toNatClampNeg (7 + x3))))) &&& (μ.2.1 w 0)), .null, .int ((x2 * 12) + x3), .null]) dX10_said_51 rfl (Nat.le_of_ble_eq_true rfl) rfl ?_
  refine j_aload_n dX10_said_53 rfl rfl ?_
  refine j_getR (ci := 2) (N := 6) (f := 1) (T := TX2) (w + 1) dX10_said_54 rfl (hw.1 0 (7, 6) rfl) rfl (by decide) fl_X10_171 rfl (hw.2 0 1 1 rfl) ?_
  refine j_iload dX10_said_57 rfl rfl ?_
  refine j_lald' (j := (Int32.toNatClampNeg ((x2 * 12) + x3))) dX10_said_59 rfl (hw.1 1 (3, 84) rfl) o2 rfl ?_
  refine j_lload dX10_said_60 rfl rfl ?_
  refine j_lcmp dX10_said_62 rfl ?_
  refine j_if_ne 74 dX10_said_63 rfl (by decide) (fun c0 => ?_) (fun c0 => ?_)
  · skip
    refine j_aload_n dX10_said_74 rfl rfl ?_
    refine j_getR (ci := 10) (N := 11) (f := 9) (T := TX10) 15 dX10_said_75 rfl (hG 12 (15, 11) rfl) rfl (by decide) fl_X10_23 rfl (hP 12 9 15 rfl) ?_
    refine j_iconst 0 dX10_said_78 rfl (by decide) ?_
    refine j_aload_n dX10_said_79 rfl rfl ?_
    refine j_getR (ci := 10) (N := 11) (f := 0) (T := TX10) t dX10_said_80 rfl (hG 12 (15, 11) rfl) rfl (by decide) fl_X10_30 rfl q12_0 ?_
    refine j_getR (ci := 8) (N := 20) (f := 10) (T := TX8) (t + 6) dX10_said_83 rfl (ht.1 0 (13, 20) rfl) rfl (by decide) fl_X10_178 rfl (ht.2 0 10 6 rfl) ?_
    refine j_iload_n dX10_said_86 rfl rfl ?_
    refine j_iald' (j := (Int32.toNatClampNeg x2)) dX10_said_87 rfl (ht.1 6 (0, 7) rfl) (o3 c0) rfl ?_
    refine j_iast' (j := 0) dX10_said_88 rfl (hG 15 (0, 9) rfl) (vpK (by decide)) (by decide) ?_
    refine j_aload_n dX10_said_89 rfl rfl ?_
    refine j_getR (ci := 10) (N := 11) (f := 9) (T := TX10) 15 dX10_said_90 rfl (hG 12 (15, 11) rfl) rfl (by decide) fl_X10_23 rfl (hP 12 9 15 rfl) ?_
    refine j_iconst 1 dX10_said_93 rfl (by decide) ?_
    refine j_aload_n dX10_said_94 rfl rfl ?_
    refine j_getR (ci := 10) (N := 11) (f := 0) (T := TX10) t dX10_said_95 rfl (hG 12 (15, 11) rfl) rfl (by decide) fl_X10_30 rfl q12_0 ?_
    refine j_getR (ci := 8) (N := 20) (f := 11) (T := TX8) (t + 7) dX10_said_98 rfl (ht.1 0 (13, 20) rfl) rfl (by decide) fl_X10_143 rfl (ht.2 0 11 7 rfl) ?_
    refine j_iload_n dX10_said_101 rfl rfl ?_
    refine j_iald' (j := (Int32.toNatClampNeg x2)) dX10_said_102 rfl (ht.1 7 (0, 7) rfl) (o3 c0) rfl ?_
    refine j_iast' (j := 1) dX10_said_103 rfl (hG 15 (0, 9) rfl) (vpK (by decide)) (by decide) ?_
    refine j_aload_n dX10_said_104 rfl rfl ?_
    refine j_getR (ci := 10) (N := 11) (f := 9) (T := TX10) 15 dX10_said_105 rfl (hG 12 (15, 11) rfl) rfl (by decide) fl_X10_23 rfl (hP 12 9 15 rfl) ?_
    refine j_iconst 2 dX10_said_108 rfl (by decide) ?_
    refine j_aload_n dX10_said_109 rfl rfl ?_
    refine j_getR (ci := 10) (N := 11) (f := 0) (T := TX10) t dX10_said_110 rfl (hG 12 (15, 11) rfl) rfl (by decide) fl_X10_30 rfl q12_0 ?_
    refine j_getR (ci := 8) (N := 20) (f := 12) (T := TX8) (t + 8) dX10_said_113 rfl (ht.1 0 (13, 20) rfl) rfl (by decide) fl_X10_181 rfl (ht.2 0 12 8 rfl) ?_
    refine j_iload_n dX10_said_116 rfl rfl ?_
    refine j_iald' (j := (Int32.toNatClampNeg x2)) dX10_said_117 rfl (ht.1 8 (0, 7) rfl) (o3 c0) rfl ?_
    refine j_iast' (j := 2) dX10_said_118 rfl (hG 15 (0, 9) rfl) (vpK (by decide)) (by decide) ?_
    refine j_aload_n dX10_said_119 rfl rfl ?_
    refine j_getR (ci := 10) (N := 11) (f := 9) (T := TX10) 15 dX10_said_120 rfl (hG 12 (15, 11) rfl) rfl (by decide) fl_X10_23 rfl (hP 12 9 15 rfl) ?_
    refine j_iconst 3 dX10_said_123 rfl (by decide) ?_
    refine j_aload_n dX10_said_124 rfl rfl ?_
    refine j_getI (ci := 10) (N := 11) (f := 1) (T := TX10) dX10_said_125 rfl (hG 12 (15, 11) rfl) rfl (by decide) fl_X10_165 rfl ?_
    refine j_iast' (j := 3) dX10_said_128 rfl (hG 15 (0, 9) rfl) (vpK (by decide)) (by decide) ?_
    refine j_aload_n dX10_said_129 rfl rfl ?_
    refine j_getR (ci := 10) (N := 11) (f := 9) (T := TX10) 15 dX10_said_130 rfl (hG 12 (15, 11) rfl) rfl (by decide) fl_X10_23 rfl (hP 12 9 15 rfl) ?_
    refine j_iconst 4 dX10_said_133 rfl (by decide) ?_
    refine j_iload dX10_said_134 rfl rfl ?_
    refine j_iast' (j := 4) dX10_said_136 rfl (hG 15 (0, 9) rfl) (vpK (by decide)) (by decide) ?_
    refine j_aload_n dX10_said_137 rfl rfl ?_
    refine j_getR (ci := 10) (N := 11) (f := 9) (T := TX10) 15 dX10_said_138 rfl (hG 12 (15, 11) rfl) rfl (by decide) fl_X10_23 rfl (hP 12 9 15 rfl) ?_
    refine j_iconst 5 dX10_said_141 rfl (by decide) ?_
    refine j_aload_n dX10_said_142 rfl rfl ?_
    refine j_getR (ci := 10) (N := 11) (f := 0) (T := TX10) t dX10_said_143 rfl (hG 12 (15, 11) rfl) rfl (by decide) fl_X10_30 rfl q12_0 ?_
    refine j_getR (ci := 8) (N := 20) (f := 5) (T := TX8) (t + 3) dX10_said_146 rfl (ht.1 0 (13, 20) rfl) rfl (by decide) fl_X10_110 rfl (ht.2 0 5 3 rfl) ?_
    refine j_iload_n dX10_said_149 rfl rfl ?_
    refine j_iald' (j := (Int32.toNatClampNeg x3)) dX10_said_150 rfl (ht.1 3 (0, 12) rfl) (o4 c0) rfl ?_
    refine j_iast' (j := 5) dX10_said_151 rfl (hG 15 (0, 9) rfl) (vpK (by decide)) (by decide) ?_
    refine j_aload_n dX10_said_152 rfl rfl ?_
    refine j_getR (ci := 10) (N := 11) (f := 9) (T := TX10) 15 dX10_said_153 rfl (hG 12 (15, 11) rfl) rfl (by decide) fl_X10_23 rfl (hP 12 9 15 rfl) ?_
    refine j_bipush 6 dX10_said_156 rfl (by decide) ?_
    refine j_iload dX10_said_158 rfl rfl ?_
    refine j_iast' (j := 6) dX10_said_160 rfl (hG 15 (0, 9) rfl) (vpK (by decide)) (by decide) ?_
    refine j_aload_n dX10_said_161 rfl rfl ?_
    refine j_getR (ci := 10) (N := 11) (f := 9) (T := TX10) 15 dX10_said_162 rfl (hG 12 (15, 11) rfl) rfl (by decide) fl_X10_23 rfl (hP 12 9 15 rfl) ?_
    refine j_bipush 7 dX10_said_165 rfl (by decide) ?_
    refine j_iload_n dX10_said_167 rfl rfl ?_
    refine j_iast' (j := 7) dX10_said_168 rfl (hG 15 (0, 9) rfl) (vpK (by decide)) (by decide) ?_
    refine j_aload_n dX10_said_169 rfl rfl ?_
    refine j_getR (ci := 10) (N := 11) (f := 9) (T := TX10) 15 dX10_said_170 rfl (hG 12 (15, 11) rfl) rfl (by decide) fl_X10_23 rfl (hP 12 9 15 rfl) ?_
    refine j_bipush 8 dX10_said_173 rfl (by decide) ?_
    refine j_aload_n dX10_said_175 rfl rfl ?_
    refine j_getR (ci := 10) (N := 11) (f := 5) (T := TX10) r dX10_said_176 rfl (hG 12 (15, 11) rfl) rfl (by decide) fl_X10_49 rfl q12_5 ?_
    refine j_iconst 0 dX10_said_179 rfl (by decide) ?_
    refine j_iald' (j := 0) dX10_said_180 rfl hgr (vpK (by decide)) (by decide) ?_
    refine j_iast' (j := 8) dX10_said_181 rfl (hG 15 (0, 9) rfl) (vpK (by decide)) (by decide) ?_
    refine j_iconst 0 dX10_said_182 rfl (by decide) ?_
    refine j_iload dX10_said_183 rfl rfl ?_
    refine j_aload_n dX10_said_185 rfl rfl ?_
    refine j_aload_n dX10_said_186 rfl rfl ?_
    refine j_getR (ci := 10) (N := 11) (f := 9) (T := TX10) 15 dX10_said_187 rfl (hG 12 (15, 11) rfl) rfl (by decide) fl_X10_23 rfl (hP 12 9 15 rfl) ?_
    refine j_aload_n dX10_said_190 rfl rfl ?_
    refine j_getR (ci := 10) (N := 11) (f := 10) (T := TX10) 16 dX10_said_191 rfl (hG 12 (15, 11) rfl) rfl (by decide) fl_X10_26 rfl (hP 12 10 16 rfl) ?_
    refine j_cV (as := [.ref 15, .ref 16]) (rest := [.int x4, .int 0]) dX10_said_194 rfl vw_X10_184 (hw.1 0 (7, 6) rfl) rfl ⟨Nat.le_of_ble_eq_true rfl, Nat.le_of_ble_eq_true rfl⟩ rfl rfl (fun _ _ => Nat.le_of_ble_eq_true rfl) (e0 c0) (fun r μ' hr => ?_)
    obtain ⟨v, rfl, hr⟩ := hr
    refine j_forget (ls' := [.null, .ref w, .null, .null, .null, .null, .null, .long ((((μ.2.1 12 6) + ((Int32.toInt64 (μ.1 r (Int32.toNatClampNeg (1 + (x3 &&& 1))))) <<< (Int32.toInt64 24 &&& 63))) + (Int32.toInt64 (μ.1 r (Int32.toNatClampNeg (7 + x3))))) &&& (μ.2.1 w 0)), .null, .int ((x2 * 12) + x3), .null]) ⟨Or.inl rfl, Or.inr rfl, Or.inl rfl, Or.inl rfl, Or.inl rfl, Or.inl rfl, Or.inl rfl, Or.inr rfl, Or.inr rfl, Or.inr rfl, Or.inr rfl, trivial⟩ ?_
    exact k0 c0 v μ' hr
  · skip
    refine j_aload_n dX10_said_66 rfl rfl ?_
    refine j_getR (ci := 2) (N := 6) (f := 2) (T := TX2) (w + 2) dX10_said_67 rfl (hw.1 0 (7, 6) rfl) rfl (by decide) fl_X10_175 rfl (hw.2 0 2 2 rfl) ?_
    refine j_iload dX10_said_70 rfl rfl ?_
    refine j_iald' (j := (Int32.toNatClampNeg ((x2 * 12) + x3))) dX10_said_72 rfl (hw.1 2 (0, 84) rfl) o2 rfl ?_
    exact j_iret dX10_said_73 rfl (k1 c0)
theorem b_X10_said_197 {l : Launch} {G : jG} {μ : jM} {φ : Int32 → jM → Prop} {x9 z0 z1 z2 : Int32} {x7 : Int64} {w : Nat} (hG : gGG G) (hP : gPP μ) (hw : tO gLaw pLaw G μ w) 
    (o0 : vp_in x9 84) 
    (k0 : φ (if z2 < (if z0 < z1 then z0 else z1) then (if z0 < z1 then z0 else z1) else z2) (wI (wL μ (w + 1) (Int32.toNatClampNeg x9) x7) (w + 2) (Int32.toNatClampNeg x9) (if z2 < (if z0 < z1 then z0 else z1) then (if z0 < z1 then z0 else z1) else z2))) :
    J l mX10_said (jZ0 1 G (pI φ)) G 0 0 197 [.null, .ref w, .null, .null, .null, .null, .null, .long x7, .null, .int x9, .null] [.int z0, .int z1, .int z2] μ := by
  refine j_min dX10_said_197 rfl vw_X10_135 ⟨Nat.le_of_ble_eq_true rfl, fun _ _ => Nat.le_of_ble_eq_true rfl⟩ ?_
  refine j_max dX10_said_200 rfl vw_X10_188 ⟨Nat.le_of_ble_eq_true rfl, fun _ _ => Nat.le_of_ble_eq_true rfl⟩ ?_
  refine j_istore (ls' := [.null, .ref w, .null, .null, .null, .null, .null, .long x7, .null, .int x9, .int (if z2 < (if z0 < z1 then z0 else z1) then (if z0 < z1 then z0 else z1) else z2)]) dX10_said_203 rfl (Nat.le_of_ble_eq_true rfl) rfl ?_
  refine j_aload_n dX10_said_205 rfl rfl ?_
  refine j_getR (ci := 2) (N := 6) (f := 1) (T := TX2) (w + 1) dX10_said_206 rfl (hw.1 0 (7, 6) rfl) rfl (by decide) fl_X10_171 rfl (hw.2 0 1 1 rfl) ?_
  refine j_iload dX10_said_209 rfl rfl ?_
  refine j_lload dX10_said_211 rfl rfl ?_
  refine j_last' (j := (Int32.toNatClampNeg x9)) dX10_said_213 rfl (hw.1 1 (3, 84) rfl) o0 rfl ?_
  refine j_aload_n dX10_said_214 rfl rfl ?_
  refine j_getR (ci := 2) (N := 6) (f := 2) (T := TX2) (w + 2) dX10_said_215 rfl (hw.1 0 (7, 6) rfl) rfl (by decide) fl_X10_175 rfl (hw.2 0 2 2 rfl) ?_
  refine j_iload dX10_said_218 rfl rfl ?_
  refine j_iload dX10_said_220 rfl rfl ?_
  refine j_iast' (j := (Int32.toNatClampNeg x9)) dX10_said_222 rfl (hw.1 2 (0, 84) rfl) o0 rfl ?_
  refine j_iload dX10_said_223 rfl rfl ?_
  exact j_iret dX10_said_225 rfl (k0 )
theorem b_X10_lot_0 {l : Launch} {G : jG} {μ : jM} {φ : Int32 → jM → Prop} {x0 x1 x2 : Int32} {ψ0 : Int32 → jM → Prop} (hG : gGG G) (hP : gPP μ) 
    (e0 : jC0 l mX10_stirred 0 G [.int x1, .int 73] μ (pI ψ0)) 
    (k0 : ∀ v μ', ψ0 v μ' → J l mX10_lot (jZ0 1 G (pI φ)) G 0 0 6 [.int x0, .null, .int x2, .null] [.int v] μ') :
    J l mX10_lot (jZ0 1 G (pI φ)) G 0 0 0 [.int x0, .int x1, .int x2, .null] [] μ := by
  refine j_iload_n dX10_lot_0 rfl rfl ?_
  refine j_bipush 73 dX10_lot_1 rfl (by decide) ?_
  refine j_cS (as := [.int x1, .int 73]) (rest := []) dX10_lot_3 rfl vw_X10_191 ⟨Nat.le_of_ble_eq_true rfl, Nat.le_of_ble_eq_true rfl⟩ rfl rfl (fun _ _ => Nat.le_of_ble_eq_true rfl) (e0 ) (fun r μ' hr => ?_)
  obtain ⟨v, rfl, hr⟩ := hr
  refine j_forget (ls' := [.int x0, .null, .int x2, .null]) ⟨Or.inr rfl, Or.inl rfl, Or.inr rfl, Or.inr rfl, trivial⟩ ?_
  exact k0  v μ' hr
theorem b_X10_lot_6 {l : Launch} {G : jG} {μ : jM} {φ : Int32 → jM → Prop} {x0 x2 z0 : Int32} {ψ0 : Int32 → jM → Prop} (hG : gGG G) (hP : gPP μ) 
    (e0 : jC0 l mX10_stirred 0 G [.int z0, .int x2] μ (pI ψ0)) 
    (k0 : ∀ v μ', ψ0 v μ' → J l mX10_lot (jZ0 1 G (pI φ)) G 0 0 10 [.int x0, .null, .null, .null] [.int v] μ') :
    J l mX10_lot (jZ0 1 G (pI φ)) G 0 0 6 [.int x0, .null, .int x2, .null] [.int z0] μ := by
  refine j_iload_n dX10_lot_6 rfl rfl ?_
  refine j_cS (as := [.int z0, .int x2]) (rest := []) dX10_lot_7 rfl vw_X10_191 ⟨Nat.le_of_ble_eq_true rfl, Nat.le_of_ble_eq_true rfl⟩ rfl rfl (fun _ _ => Nat.le_of_ble_eq_true rfl) (e0 ) (fun r μ' hr => ?_)
  obtain ⟨v, rfl, hr⟩ := hr
  refine j_forget (ls' := [.int x0, .null, .null, .null]) ⟨Or.inr rfl, Or.inr rfl, Or.inl rfl, Or.inr rfl, trivial⟩ ?_
  exact k0  v μ' hr
theorem b_X10_lot_10 {l : Launch} {G : jG} {μ : jM} {φ : Int32 → jM → Prop} {x0 z0 : Int32} (hG : gGG G) (hP : gPP μ) 
    (k0 : (x0 ≤ (0 : Int32)) → φ 0 μ) 
    (o0 : (¬ (x0 ≤ (0 : Int32))) → ¬ (x0 : Int32) = 0) 
    (k1 : (¬ (x0 ≤ (0 : Int32))) → φ (((Int32.toUInt32 z0 >>> (Int32.toUInt32 1 &&& Int32.toUInt32 31)).toInt32) - ((Int32.toUInt32 z0 >>> (Int32.toUInt32 1 &&& Int32.toUInt32 31)).toInt32) / x0 * x0) μ) :
    J l mX10_lot (jZ0 1 G (pI φ)) G 0 0 10 [.int x0, .null, .null, .null] [.int z0] μ := by
  refine j_istore_n (ls' := [.int x0, .null, .null, .int z0]) dX10_lot_10 rfl rfl (Nat.le_of_ble_eq_true rfl) rfl ?_
  refine j_iload_n dX10_lot_11 rfl rfl ?_
  refine j_if_le 23 dX10_lot_12 rfl (by decide) (fun c0 => ?_) (fun c0 => ?_)
  · skip
    refine j_iconst 0 dX10_lot_23 rfl (by decide) ?_
    exact j_iret dX10_lot_24 rfl (k0 c0)
  · skip
    refine j_iload_n dX10_lot_15 rfl rfl ?_
    refine j_iconst 1 dX10_lot_16 rfl (by decide) ?_
    refine j_iushr dX10_lot_17 rfl ?_
    refine j_iload_n dX10_lot_18 rfl rfl ?_
    refine j_irem dX10_lot_19 rfl (o0 c0) ?_
    refine j_goto 24 dX10_lot_20 (by decide) ?_
    exact j_iret dX10_lot_24 rfl (k1 c0)
theorem b_X10_stirred_0 {l : Launch} {G : jG} {μ : jM} {φ : Int32 → jM → Prop} {x0 x1 : Int32} (hG : gGG G) (hP : gPP μ) 
    (k0 : φ ((((x0 ^^^ x1) * 1103515245) + 12345) ^^^ ((Int32.toUInt32 (((x0 ^^^ x1) * 1103515245) + 12345) >>> (Int32.toUInt32 15 &&& Int32.toUInt32 31)).toInt32)) μ) :
    J l mX10_stirred (jZ0 0 G (pI φ)) G 0 0 0 [.int x0, .int x1, .null] [] μ := by
  refine j_iload_n dX10_stirred_0 rfl rfl ?_
  refine j_iload_n dX10_stirred_1 rfl rfl ?_
  refine j_ixor dX10_stirred_2 rfl ?_
  refine j_ldc 1103515245 dX10_stirred_3 rfl ck_X10_194 ?_
  refine j_imul dX10_stirred_5 rfl ?_
  refine j_sipush 12345 dX10_stirred_6 rfl (by decide) ?_
  refine j_iadd dX10_stirred_9 rfl ?_
  refine j_istore_n (ls' := [.int x0, .int x1, .int (((x0 ^^^ x1) * 1103515245) + 12345)]) dX10_stirred_10 rfl rfl (Nat.le_of_ble_eq_true rfl) rfl ?_
  refine j_iload_n dX10_stirred_11 rfl rfl ?_
  refine j_iload_n dX10_stirred_12 rfl rfl ?_
  refine j_bipush 15 dX10_stirred_13 rfl (by decide) ?_
  refine j_iushr dX10_stirred_15 rfl ?_
  refine j_ixor dX10_stirred_16 rfl ?_
  exact j_iret dX10_stirred_17 rfl (k0 )
