/-! THE REFERENCE as it is made -/
def ap1 (z : Int64) (x : Int32) : Int64 := if x = 0 then z else 27 * z + ((x - 97) + 1).toInt64
def apW (x0 x1 x2 x3 x4 x5 x6 : Int32) : Int64 := ap1 (ap1 (ap1 (ap1 (ap1 (ap1 (ap1 0 x0) x1) x2) x3) x4) x5) x6
def lowE (μ μ' : jM) : Prop := ∀ c, c < 112 → μ'.1 c = μ.1 c ∧ μ'.2.1 c = μ.2.1 c ∧ μ'.2.2 c = μ.2.2 c
theorem lowE_r {μ : jM} : lowE μ μ := fun _ _ => ⟨rfl, rfl, rfl⟩
theorem lowE.trans {μ μ1 μ2 : jM} (h1 : lowE μ μ1) (h2 : lowE μ1 μ2) : lowE μ μ2 := fun c h => ⟨(h2 c h).1.trans (h1 c h).1, (h2 c h).2.1.trans (h1 c h).2.1, (h2 c h).2.2.trans (h1 c h).2.2⟩
theorem lowE_p {μ μ' : jM} {a f : Nat} {x : Option Nat} (ha : 112 ≤ a) (h : lowE μ μ') : lowE μ (wP μ' a f x) := fun c hc => ⟨(h c hc).1, (h c hc).2.1, by rw [wP_n (by omega)]; exact (h c hc).2.2⟩
theorem lowE_i {μ μ' : jM} {a f : Nat} {x : Int32} (ha : 112 ≤ a) (h : lowE μ μ') : lowE μ (wI μ' a f x) := fun c hc => ⟨by rw [wI_ne (by omega)]; exact (h c hc).1, (h c hc).2.1, (h c hc).2.2⟩
theorem lowE_l {μ μ' : jM} {a f : Nat} {x : Int64} (ha : 112 ≤ a) (h : lowE μ μ') : lowE μ (wL μ' a f x) := fun c hc => ⟨(h c hc).1, by rw [wL_ne (by omega)]; exact (h c hc).2.1, (h c hc).2.2⟩
theorem lowE_z {μ μ' : jM} {a : Nat} (ha : 112 ≤ a) (h : lowE μ μ') : lowE μ (z0 μ' a) := fun c hc => ⟨by rw [← (h c hc).1]; simp [z0, show c ≠ a by omega], by rw [← (h c hc).2.1]; simp [z0, show c ≠ a by omega], by rw [← (h c hc).2.2]; simp [z0, show c ≠ a by omega]⟩
def mM (μ : jM) : jM := kX12 (z0 μ 112)
set_option maxRecDepth 100000 in
theorem mM_lo {μ : jM} : lowE μ (mM μ) := by
  unfold mM kX12
  repeat' (first | refine lowE_p (by decide) ?_ | refine lowE_z (by decide) ?_ | refine lowE_i (by decide) ?_ | exact lowE_r)
set_option maxRecDepth 100000 in
theorem mM_nn {μ : jM} : gNN (mM μ) := by
  intro a f x h
  unfold gN at h
  split at h <;> first | cases h | (split at h <;> first | (cases h; rfl) | cases h)
set_option maxRecDepth 100000 in
theorem mM_0 {μ : jM} : (mM μ).1 112 2 = 0 ∧ (mM μ).1 112 17 = -1 ∧ (mM μ).1 112 18 = 0 ∧ (mM μ).1 112 66 = 0 ∧ (mM μ).1 112 71 = 0 ∧ (mM μ).1 151 = (fun _ => 0) ∧ (mM μ).1 152 = (fun _ => 0) ∧ (mM μ).1 165 = (fun _ => 0) := ⟨rfl, rfl, rfl, rfl, rfl, rfl, rfl, rfl⟩
def wrdW (μ2 : jM) (n : Nat) (μ : jM) : Prop := μ.1 = μ2.1 ∧ μ.2.2 = μ2.2.2 ∧ (∀ c, c ≠ 119 → μ.2.1 c = μ2.2.1 c) ∧ ∀ i, i < n → ∀ w, wrds[i]? = some w → μ.2.1 119 i = lN (en 27 w)
theorem wrdW_s {μ2 μ : jM} {n : Nat} {x : Int64} (h : wrdW μ2 n μ) (hx : ∀ w, wrds[n]? = some w → x = lN (en 27 w)) : wrdW μ2 (n + 1) (wL μ 119 n x) := by
  refine ⟨h.1, h.2.1, fun c hc => by rw [wL_ne hc]; exact h.2.2.1 c hc, fun i hi w hw => ?_⟩
  rw [wL_eq]
  by_cases e : i = n
  · subst e; rw [pk_uLs]; exact hx w hw
  · rw [pk_uLn e]; exact h.2.2.2 i (by omega) w hw
section FirstM
variable {l : Launch} {G : jG}
theorem c_X12_ap (hG : gMM G) {μ : jM} (hP : gNN μ) (z : Int64) (x : Int32) : jC0 l mX12_appends 0 G [.long z, .int x] μ (pJ fun v μ' => v = ap1 z x ∧ μ' = μ) := by
  refine jC0.of' (ls := [.long z, .null, .int x]) rfl rfl rfl (fun _ _ => Nat.le_of_ble_eq_true rfl) ?_
  refine b_X12_appends_0 hG hP (fun h => ⟨by unfold ap1; rw [if_neg h], rfl⟩) (fun h => ⟨by unfold ap1; rw [if_pos h], rfl⟩)
theorem c_X12_word (hG : gMM G) {μ : jM} (hP : gNN μ) (x0 x1 x2 x3 x4 x5 x6 : Int32) : jC0 l mX12_word 1 G [.int x0, .int x1, .int x2, .int x3, .int x4, .int x5, .int x6] μ (pJ fun v μ' => v = apW x0 x1 x2 x3 x4 x5 x6 ∧ μ' = μ) := by
  refine jC0.of' (ls := [.int x0, .int x1, .int x2, .int x3, .int x4, .int x5, .int x6]) rfl rfl rfl (fun _ _ => Nat.le_of_ble_eq_true rfl) ?_
  refine b_X12_word_0 hG hP (c_X12_ap hG hP _ _) ?_
  rintro _ _ ⟨rfl, rfl⟩
  refine b_X12_word_5 hG hP (c_X12_ap hG hP _ _) ?_
  rintro _ _ ⟨rfl, rfl⟩
  refine b_X12_word_9 hG hP (c_X12_ap hG hP _ _) ?_
  rintro _ _ ⟨rfl, rfl⟩
  refine b_X12_word_13 hG hP (c_X12_ap hG hP _ _) ?_
  rintro _ _ ⟨rfl, rfl⟩
  refine b_X12_word_17 hG hP (c_X12_ap hG hP _ _) ?_
  rintro _ _ ⟨rfl, rfl⟩
  refine b_X12_word_22 hG hP (c_X12_ap hG hP _ _) ?_
  rintro _ _ ⟨rfl, rfl⟩
  refine b_X12_word_27 hG hP (c_X12_ap hG hP _ _) ?_
  rintro _ _ ⟨rfl, rfl⟩
  exact b_X12_word_32 hG hP ⟨rfl, rfl⟩
theorem mk_T0 {μ : jM} (h18 : μ.1 112 18 = 0) (hd : dI 0 T0 μ) (hl : ∀ q, q < 3 → μ.1 139 (3 * 0 + q) = 0 ∧ μ.1 140 (3 * 0 + q) = 0) : txM μ 0 T0 dLaw := by
  obtain ⟨-, -, -, -, -, hvt⟩ := pOK_0 (Y := [])
  exact ⟨⟨by decide, h18⟩, hd, fun k hk => absurd hk (by simp [T0]), fun a ha => absurd ha (by simp [T0]), fun q hq => Or.inl ⟨by rw [(hl q hq).1, (hl q hq).2], rfl⟩, hvt rfl⟩
set_option maxHeartbeats 8000000 in
theorem c_X12_init {X : jEX} (hX : jXs X) {μ : jM} (c0 : jCl (gC ++ [(17, 80)]) (z0 μ 112)) :
    jCA l mX12_init 8 54 12903 (gC ++ [(17, 80)]) [.ref 112] (z0 μ 112) (fun r μ' G' => r = none ∧ G' = gM ∧ gNN μ' ∧ mI a0 μ' ∧ kwM μ' ∧ lowE μ μ' ∧ jCl gM μ') X := by
  refine jCA.of (ls := [.ref 112]) rfl rfl (jnd_ok rfl) (fun _ _ => Nat.le_of_ble_eq_true rfl) ?_
  have hG : gMM gM := fun a sh h => h
  refine n_X12 (G := gC ++ [(17, 80)]) rfl rfl c0 (by decide) hX ⟨Nat.le_refl _, Nat.le_refl _⟩ (fun cl => ?_)
  have eG : gC ++ [(17, 80)] ++ sX12 = gM := by decide +kernel
  rw [eG] at cl ⊢
  change jCl gM (mM μ) at cl
  show J l mX12_init _ gM 54 12903 449 [.ref 112] [] (mM μ)
  have P1 := mM_nn (μ := μ)
  have L1 := mM_lo (μ := μ)
  obtain ⟨z2, z17, z18, z66, z71, z151, z152, z165⟩ := mM_0 (μ := μ)
  obtain ⟨μ1, e1⟩ : ∃ m, mM μ = m := ⟨_, rfl⟩
  rw [e1] at cl P1 L1 z2 z17 z18 z66 z71 z151 z152 z165 ⊢
  clear e1
  refine j_aload_n dX12_init_449 rfl rfl ?_
  refine j_iconst 0 dX12_init_450 rfl (by decide) ?_
  refine j_cV (as := [.int 0]) (rest := []) dX12_init_451 rfl vw_X12_182 (hG 112 (17, 80) rfl) rfl ⟨Nat.le_of_ble_eq_true rfl, Nat.le_of_ble_eq_true rfl⟩ rfl rfl (fun _ _ => Nat.le_of_ble_eq_true rfl) (c_X12_plain (v := 0) hG P1 (by decide) rfl) ?_
  rintro _ μ2 ⟨rfl, d2, l2, -, f2, o2⟩
  have P2 := o2.gNN P1
  obtain ⟨w0, ew0⟩ : ∃ m, m = μ2 := ⟨_, rfl⟩
  have s0 : wrdW μ2 0 w0 := by rw [ew0]; exact ⟨rfl, rfl, fun _ _ => rfl, fun i hi => absurd hi (Nat.not_lt_zero i)⟩
  rw [← ew0]
  refine j_aload_n dX12_init_454 rfl rfl ?_
  refine j_getR (ci := 12) (N := 80) (f := 9) (T := TX12) 119 dX12_init_455 rfl (hG 112 (17, 80) rfl) rfl (by decide) fl_X12_34 rfl ((gNN_of s0.2.1 P2) 112 9 119 rfl) ?_
  refine j_iconst 0 dX12_init_458 rfl (by decide) ?_
  refine j_bipush 112 dX12_init_459 rfl (by decide) ?_
  refine j_bipush 108 dX12_init_461 rfl (by decide) ?_
  refine j_bipush 97 dX12_init_463 rfl (by decide) ?_
  refine j_bipush 99 dX12_init_465 rfl (by decide) ?_
  refine j_bipush 101 dX12_init_467 rfl (by decide) ?_
  refine j_iconst 0 dX12_init_469 rfl (by decide) ?_
  refine j_iconst 0 dX12_init_470 rfl (by decide) ?_
  refine j_cS (as := [.int 112, .int 108, .int 97, .int 99, .int 101, .int 0, .int 0]) (rest := [.int 0, .ref 119]) dX12_init_471 rfl vw_X12_186 ⟨(Nat.le_of_ble_eq_true rfl), (Nat.le_of_ble_eq_true rfl)⟩ rfl rfl (fun _ _ => (Nat.le_of_ble_eq_true rfl)) (c_X12_word hG (gNN_of s0.2.1 P2) 112 108 97 99 101 0 0) ?_
  rintro _ q0 ⟨_, rfl, rfl, hq0⟩
  rw [hq0]
  clear hq0
  refine j_last' 0 dX12_init_474 rfl (hG 119 (3, 23) rfl) (show vp_in (nI 0) 23 from vp_in_nI (by decide) (by decide)) (by decide) ?_
  have s1 : wrdW μ2 1 (wL w0 119 0 (apW 112 108 97 99 101 0 0)) := wrdW_s s0 (x := apW 112 108 97 99 101 0 0) (fun w hw => by obtain rfl : [16, 12, 1, 3, 5] = w := Option.some.inj hw; decide +kernel)
  generalize wL w0 119 0 (apW 112 108 97 99 101 0 0) = w1 at s1 ⊢
  refine j_aload_n dX12_init_475 rfl rfl ?_
  refine j_getR (ci := 12) (N := 80) (f := 9) (T := TX12) 119 dX12_init_476 rfl (hG 112 (17, 80) rfl) rfl (by decide) fl_X12_34 rfl ((gNN_of s1.2.1 P2) 112 9 119 rfl) ?_
  refine j_iconst 1 dX12_init_479 rfl (by decide) ?_
  refine j_bipush 114 dX12_init_480 rfl (by decide) ?_
  refine j_bipush 111 dX12_init_482 rfl (by decide) ?_
  refine j_bipush 97 dX12_init_484 rfl (by decide) ?_
  refine j_bipush 100 dX12_init_486 rfl (by decide) ?_
  refine j_iconst 0 dX12_init_488 rfl (by decide) ?_
  refine j_iconst 0 dX12_init_489 rfl (by decide) ?_
  refine j_iconst 0 dX12_init_490 rfl (by decide) ?_
  refine j_cS (as := [.int 114, .int 111, .int 97, .int 100, .int 0, .int 0, .int 0]) (rest := [.int 1, .ref 119]) dX12_init_491 rfl vw_X12_186 ⟨(Nat.le_of_ble_eq_true rfl), (Nat.le_of_ble_eq_true rfl)⟩ rfl rfl (fun _ _ => (Nat.le_of_ble_eq_true rfl)) (c_X12_word hG (gNN_of s1.2.1 P2) 114 111 97 100 0 0 0) ?_
  rintro _ q1 ⟨_, rfl, rfl, hq1⟩
  rw [hq1]
  clear hq1
  refine j_last' 1 dX12_init_494 rfl (hG 119 (3, 23) rfl) (show vp_in (nI 1) 23 from vp_in_nI (by decide) (by decide)) (by decide) ?_
  have s2 : wrdW μ2 2 (wL w1 119 1 (apW 114 111 97 100 0 0 0)) := wrdW_s s1 (x := apW 114 111 97 100 0 0 0) (fun w hw => by obtain rfl : [18, 15, 1, 4] = w := Option.some.inj hw; decide +kernel)
  generalize wL w1 119 1 (apW 114 111 97 100 0 0 0) = w2 at s2 ⊢
  refine j_aload_n dX12_init_495 rfl rfl ?_
  refine j_getR (ci := 12) (N := 80) (f := 9) (T := TX12) 119 dX12_init_496 rfl (hG 112 (17, 80) rfl) rfl (by decide) fl_X12_34 rfl ((gNN_of s2.2.1 P2) 112 9 119 rfl) ?_
  refine j_iconst 2 dX12_init_499 rfl (by decide) ?_
  refine j_bipush 102 dX12_init_500 rfl (by decide) ?_
  refine j_bipush 105 dX12_init_502 rfl (by decide) ?_
  refine j_bipush 101 dX12_init_504 rfl (by decide) ?_
  refine j_bipush 108 dX12_init_506 rfl (by decide) ?_
  refine j_bipush 100 dX12_init_508 rfl (by decide) ?_
  refine j_iconst 0 dX12_init_510 rfl (by decide) ?_
  refine j_iconst 0 dX12_init_511 rfl (by decide) ?_
  refine j_cS (as := [.int 102, .int 105, .int 101, .int 108, .int 100, .int 0, .int 0]) (rest := [.int 2, .ref 119]) dX12_init_512 rfl vw_X12_186 ⟨(Nat.le_of_ble_eq_true rfl), (Nat.le_of_ble_eq_true rfl)⟩ rfl rfl (fun _ _ => (Nat.le_of_ble_eq_true rfl)) (c_X12_word hG (gNN_of s2.2.1 P2) 102 105 101 108 100 0 0) ?_
  rintro _ q2 ⟨_, rfl, rfl, hq2⟩
  rw [hq2]
  clear hq2
  refine j_last' 2 dX12_init_515 rfl (hG 119 (3, 23) rfl) (show vp_in (nI 2) 23 from vp_in_nI (by decide) (by decide)) (by decide) ?_
  have s3 : wrdW μ2 3 (wL w2 119 2 (apW 102 105 101 108 100 0 0)) := wrdW_s s2 (x := apW 102 105 101 108 100 0 0) (fun w hw => by obtain rfl : [6, 9, 5, 12, 4] = w := Option.some.inj hw; decide +kernel)
  generalize wL w2 119 2 (apW 102 105 101 108 100 0 0) = w3 at s3 ⊢
  refine j_aload_n dX12_init_516 rfl rfl ?_
  refine j_getR (ci := 12) (N := 80) (f := 9) (T := TX12) 119 dX12_init_517 rfl (hG 112 (17, 80) rfl) rfl (by decide) fl_X12_34 rfl ((gNN_of s3.2.1 P2) 112 9 119 rfl) ?_
  refine j_iconst 3 dX12_init_520 rfl (by decide) ?_
  refine j_bipush 103 dX12_init_521 rfl (by decide) ?_
  refine j_bipush 97 dX12_init_523 rfl (by decide) ?_
  refine j_bipush 116 dX12_init_525 rfl (by decide) ?_
  refine j_bipush 101 dX12_init_527 rfl (by decide) ?_
  refine j_iconst 0 dX12_init_529 rfl (by decide) ?_
  refine j_iconst 0 dX12_init_530 rfl (by decide) ?_
  refine j_iconst 0 dX12_init_531 rfl (by decide) ?_
  refine j_cS (as := [.int 103, .int 97, .int 116, .int 101, .int 0, .int 0, .int 0]) (rest := [.int 3, .ref 119]) dX12_init_532 rfl vw_X12_186 ⟨(Nat.le_of_ble_eq_true rfl), (Nat.le_of_ble_eq_true rfl)⟩ rfl rfl (fun _ _ => (Nat.le_of_ble_eq_true rfl)) (c_X12_word hG (gNN_of s3.2.1 P2) 103 97 116 101 0 0 0) ?_
  rintro _ q3 ⟨_, rfl, rfl, hq3⟩
  rw [hq3]
  clear hq3
  refine j_last' 3 dX12_init_535 rfl (hG 119 (3, 23) rfl) (show vp_in (nI 3) 23 from vp_in_nI (by decide) (by decide)) (by decide) ?_
  have s4 : wrdW μ2 4 (wL w3 119 3 (apW 103 97 116 101 0 0 0)) := wrdW_s s3 (x := apW 103 97 116 101 0 0 0) (fun w hw => by obtain rfl : [7, 1, 20, 5] = w := Option.some.inj hw; decide +kernel)
  generalize wL w3 119 3 (apW 103 97 116 101 0 0 0) = w4 at s4 ⊢
  refine j_aload_n dX12_init_536 rfl rfl ?_
  refine j_getR (ci := 12) (N := 80) (f := 9) (T := TX12) 119 dX12_init_537 rfl (hG 112 (17, 80) rfl) rfl (by decide) fl_X12_34 rfl ((gNN_of s4.2.1 P2) 112 9 119 rfl) ?_
  refine j_iconst 4 dX12_init_540 rfl (by decide) ?_
  refine j_bipush 103 dX12_init_541 rfl (by decide) ?_
  refine j_bipush 104 dX12_init_543 rfl (by decide) ?_
  refine j_bipush 111 dX12_init_545 rfl (by decide) ?_
  refine j_bipush 115 dX12_init_547 rfl (by decide) ?_
  refine j_bipush 116 dX12_init_549 rfl (by decide) ?_
  refine j_iconst 0 dX12_init_551 rfl (by decide) ?_
  refine j_iconst 0 dX12_init_552 rfl (by decide) ?_
  refine j_cS (as := [.int 103, .int 104, .int 111, .int 115, .int 116, .int 0, .int 0]) (rest := [.int 4, .ref 119]) dX12_init_553 rfl vw_X12_186 ⟨(Nat.le_of_ble_eq_true rfl), (Nat.le_of_ble_eq_true rfl)⟩ rfl rfl (fun _ _ => (Nat.le_of_ble_eq_true rfl)) (c_X12_word hG (gNN_of s4.2.1 P2) 103 104 111 115 116 0 0) ?_
  rintro _ q4 ⟨_, rfl, rfl, hq4⟩
  rw [hq4]
  clear hq4
  refine j_last' 4 dX12_init_556 rfl (hG 119 (3, 23) rfl) (show vp_in (nI 4) 23 from vp_in_nI (by decide) (by decide)) (by decide) ?_
  have s5 : wrdW μ2 5 (wL w4 119 4 (apW 103 104 111 115 116 0 0)) := wrdW_s s4 (x := apW 103 104 111 115 116 0 0) (fun w hw => by obtain rfl : [7, 8, 15, 19, 20] = w := Option.some.inj hw; decide +kernel)
  generalize wL w4 119 4 (apW 103 104 111 115 116 0 0) = w5 at s5 ⊢
  refine j_aload_n dX12_init_557 rfl rfl ?_
  refine j_getR (ci := 12) (N := 80) (f := 9) (T := TX12) 119 dX12_init_558 rfl (hG 112 (17, 80) rfl) rfl (by decide) fl_X12_34 rfl ((gNN_of s5.2.1 P2) 112 9 119 rfl) ?_
  refine j_iconst 5 dX12_init_561 rfl (by decide) ?_
  refine j_bipush 111 dX12_init_562 rfl (by decide) ?_
  refine j_bipush 119 dX12_init_564 rfl (by decide) ?_
  refine j_bipush 101 dX12_init_566 rfl (by decide) ?_
  refine j_bipush 115 dX12_init_568 rfl (by decide) ?_
  refine j_iconst 0 dX12_init_570 rfl (by decide) ?_
  refine j_iconst 0 dX12_init_571 rfl (by decide) ?_
  refine j_iconst 0 dX12_init_572 rfl (by decide) ?_
  refine j_cS (as := [.int 111, .int 119, .int 101, .int 115, .int 0, .int 0, .int 0]) (rest := [.int 5, .ref 119]) dX12_init_573 rfl vw_X12_186 ⟨(Nat.le_of_ble_eq_true rfl), (Nat.le_of_ble_eq_true rfl)⟩ rfl rfl (fun _ _ => (Nat.le_of_ble_eq_true rfl)) (c_X12_word hG (gNN_of s5.2.1 P2) 111 119 101 115 0 0 0) ?_
  rintro _ q5 ⟨_, rfl, rfl, hq5⟩
  rw [hq5]
  clear hq5
  refine j_last' 5 dX12_init_576 rfl (hG 119 (3, 23) rfl) (show vp_in (nI 5) 23 from vp_in_nI (by decide) (by decide)) (by decide) ?_
  have s6 : wrdW μ2 6 (wL w5 119 5 (apW 111 119 101 115 0 0 0)) := wrdW_s s5 (x := apW 111 119 101 115 0 0 0) (fun w hw => by obtain rfl : [15, 23, 5, 19] = w := Option.some.inj hw; decide +kernel)
  generalize wL w5 119 5 (apW 111 119 101 115 0 0 0) = w6 at s6 ⊢
  refine j_aload_n dX12_init_577 rfl rfl ?_
  refine j_getR (ci := 12) (N := 80) (f := 9) (T := TX12) 119 dX12_init_578 rfl (hG 112 (17, 80) rfl) rfl (by decide) fl_X12_34 rfl ((gNN_of s6.2.1 P2) 112 9 119 rfl) ?_
  refine j_bipush 6 dX12_init_581 rfl (by decide) ?_
  refine j_bipush 102 dX12_init_583 rfl (by decide) ?_
  refine j_bipush 101 dX12_init_585 rfl (by decide) ?_
  refine j_bipush 97 dX12_init_587 rfl (by decide) ?_
  refine j_bipush 114 dX12_init_589 rfl (by decide) ?_
  refine j_bipush 115 dX12_init_591 rfl (by decide) ?_
  refine j_iconst 0 dX12_init_593 rfl (by decide) ?_
  refine j_iconst 0 dX12_init_594 rfl (by decide) ?_
  refine j_cS (as := [.int 102, .int 101, .int 97, .int 114, .int 115, .int 0, .int 0]) (rest := [.int 6, .ref 119]) dX12_init_595 rfl vw_X12_186 ⟨(Nat.le_of_ble_eq_true rfl), (Nat.le_of_ble_eq_true rfl)⟩ rfl rfl (fun _ _ => (Nat.le_of_ble_eq_true rfl)) (c_X12_word hG (gNN_of s6.2.1 P2) 102 101 97 114 115 0 0) ?_
  rintro _ q6 ⟨_, rfl, rfl, hq6⟩
  rw [hq6]
  clear hq6
  refine j_last' 6 dX12_init_598 rfl (hG 119 (3, 23) rfl) (show vp_in (nI 6) 23 from vp_in_nI (by decide) (by decide)) (by decide) ?_
  have s7 : wrdW μ2 7 (wL w6 119 6 (apW 102 101 97 114 115 0 0)) := wrdW_s s6 (x := apW 102 101 97 114 115 0 0) (fun w hw => by obtain rfl : [6, 5, 1, 18, 19] = w := Option.some.inj hw; decide +kernel)
  generalize wL w6 119 6 (apW 102 101 97 114 115 0 0) = w7 at s7 ⊢
  refine j_aload_n dX12_init_599 rfl rfl ?_
  refine j_getR (ci := 12) (N := 80) (f := 9) (T := TX12) 119 dX12_init_600 rfl (hG 112 (17, 80) rfl) rfl (by decide) fl_X12_34 rfl ((gNN_of s7.2.1 P2) 112 9 119 rfl) ?_
  refine j_bipush 7 dX12_init_603 rfl (by decide) ?_
  refine j_bipush 98 dX12_init_605 rfl (by decide) ?_
  refine j_bipush 101 dX12_init_607 rfl (by decide) ?_
  refine j_bipush 97 dX12_init_609 rfl (by decide) ?_
  refine j_bipush 114 dX12_init_611 rfl (by decide) ?_
  refine j_bipush 115 dX12_init_613 rfl (by decide) ?_
  refine j_iconst 0 dX12_init_615 rfl (by decide) ?_
  refine j_iconst 0 dX12_init_616 rfl (by decide) ?_
  refine j_cS (as := [.int 98, .int 101, .int 97, .int 114, .int 115, .int 0, .int 0]) (rest := [.int 7, .ref 119]) dX12_init_617 rfl vw_X12_186 ⟨(Nat.le_of_ble_eq_true rfl), (Nat.le_of_ble_eq_true rfl)⟩ rfl rfl (fun _ _ => (Nat.le_of_ble_eq_true rfl)) (c_X12_word hG (gNN_of s7.2.1 P2) 98 101 97 114 115 0 0) ?_
  rintro _ q7 ⟨_, rfl, rfl, hq7⟩
  rw [hq7]
  clear hq7
  refine j_last' 7 dX12_init_620 rfl (hG 119 (3, 23) rfl) (show vp_in (nI 7) 23 from vp_in_nI (by decide) (by decide)) (by decide) ?_
  have s8 : wrdW μ2 8 (wL w7 119 7 (apW 98 101 97 114 115 0 0)) := wrdW_s s7 (x := apW 98 101 97 114 115 0 0) (fun w hw => by obtain rfl : [2, 5, 1, 18, 19] = w := Option.some.inj hw; decide +kernel)
  generalize wL w7 119 7 (apW 98 101 97 114 115 0 0) = w8 at s8 ⊢
  refine j_aload_n dX12_init_621 rfl rfl ?_
  refine j_getR (ci := 12) (N := 80) (f := 9) (T := TX12) 119 dX12_init_622 rfl (hG 112 (17, 80) rfl) rfl (by decide) fl_X12_34 rfl ((gNN_of s8.2.1 P2) 112 9 119 rfl) ?_
  refine j_bipush 8 dX12_init_625 rfl (by decide) ?_
  refine j_bipush 102 dX12_init_627 rfl (by decide) ?_
  refine j_bipush 111 dX12_init_629 rfl (by decide) ?_
  refine j_bipush 103 dX12_init_631 rfl (by decide) ?_
  refine j_iconst 0 dX12_init_633 rfl (by decide) ?_
  refine j_iconst 0 dX12_init_634 rfl (by decide) ?_
  refine j_iconst 0 dX12_init_635 rfl (by decide) ?_
  refine j_iconst 0 dX12_init_636 rfl (by decide) ?_
  refine j_cS (as := [.int 102, .int 111, .int 103, .int 0, .int 0, .int 0, .int 0]) (rest := [.int 8, .ref 119]) dX12_init_637 rfl vw_X12_186 ⟨(Nat.le_of_ble_eq_true rfl), (Nat.le_of_ble_eq_true rfl)⟩ rfl rfl (fun _ _ => (Nat.le_of_ble_eq_true rfl)) (c_X12_word hG (gNN_of s8.2.1 P2) 102 111 103 0 0 0 0) ?_
  rintro _ q8 ⟨_, rfl, rfl, hq8⟩
  rw [hq8]
  clear hq8
  refine j_last' 8 dX12_init_640 rfl (hG 119 (3, 23) rfl) (show vp_in (nI 8) 23 from vp_in_nI (by decide) (by decide)) (by decide) ?_
  have s9 : wrdW μ2 9 (wL w8 119 8 (apW 102 111 103 0 0 0 0)) := wrdW_s s8 (x := apW 102 111 103 0 0 0 0) (fun w hw => by obtain rfl : [6, 15, 7] = w := Option.some.inj hw; decide +kernel)
  generalize wL w8 119 8 (apW 102 111 103 0 0 0 0) = w9 at s9 ⊢
  refine j_aload_n dX12_init_641 rfl rfl ?_
  refine j_getR (ci := 12) (N := 80) (f := 9) (T := TX12) 119 dX12_init_642 rfl (hG 112 (17, 80) rfl) rfl (by decide) fl_X12_34 rfl ((gNN_of s9.2.1 P2) 112 9 119 rfl) ?_
  refine j_bipush 9 dX12_init_645 rfl (by decide) ?_
  refine j_bipush 108 dX12_init_647 rfl (by decide) ?_
  refine j_bipush 97 dX12_init_649 rfl (by decide) ?_
  refine j_bipush 109 dX12_init_651 rfl (by decide) ?_
  refine j_bipush 112 dX12_init_653 rfl (by decide) ?_
  refine j_iconst 0 dX12_init_655 rfl (by decide) ?_
  refine j_iconst 0 dX12_init_656 rfl (by decide) ?_
  refine j_iconst 0 dX12_init_657 rfl (by decide) ?_
  refine j_cS (as := [.int 108, .int 97, .int 109, .int 112, .int 0, .int 0, .int 0]) (rest := [.int 9, .ref 119]) dX12_init_658 rfl vw_X12_186 ⟨(Nat.le_of_ble_eq_true rfl), (Nat.le_of_ble_eq_true rfl)⟩ rfl rfl (fun _ _ => (Nat.le_of_ble_eq_true rfl)) (c_X12_word hG (gNN_of s9.2.1 P2) 108 97 109 112 0 0 0) ?_
  rintro _ q9 ⟨_, rfl, rfl, hq9⟩
  rw [hq9]
  clear hq9
  refine j_last' 9 dX12_init_661 rfl (hG 119 (3, 23) rfl) (show vp_in (nI 9) 23 from vp_in_nI (by decide) (by decide)) (by decide) ?_
  have s10 : wrdW μ2 10 (wL w9 119 9 (apW 108 97 109 112 0 0 0)) := wrdW_s s9 (x := apW 108 97 109 112 0 0 0) (fun w hw => by obtain rfl : [12, 1, 13, 16] = w := Option.some.inj hw; decide +kernel)
  generalize wL w9 119 9 (apW 108 97 109 112 0 0 0) = w10 at s10 ⊢
  refine j_aload_n dX12_init_662 rfl rfl ?_
  refine j_getR (ci := 12) (N := 80) (f := 9) (T := TX12) 119 dX12_init_663 rfl (hG 112 (17, 80) rfl) rfl (by decide) fl_X12_34 rfl ((gNN_of s10.2.1 P2) 112 9 119 rfl) ?_
  refine j_bipush 10 dX12_init_666 rfl (by decide) ?_
  refine j_bipush 115 dX12_init_668 rfl (by decide) ?_
  refine j_bipush 101 dX12_init_670 rfl (by decide) ?_
  refine j_bipush 101 dX12_init_672 rfl (by decide) ?_
  refine j_bipush 100 dX12_init_674 rfl (by decide) ?_
  refine j_iconst 0 dX12_init_676 rfl (by decide) ?_
  refine j_iconst 0 dX12_init_677 rfl (by decide) ?_
  refine j_iconst 0 dX12_init_678 rfl (by decide) ?_
  refine j_cS (as := [.int 115, .int 101, .int 101, .int 100, .int 0, .int 0, .int 0]) (rest := [.int 10, .ref 119]) dX12_init_679 rfl vw_X12_186 ⟨(Nat.le_of_ble_eq_true rfl), (Nat.le_of_ble_eq_true rfl)⟩ rfl rfl (fun _ _ => (Nat.le_of_ble_eq_true rfl)) (c_X12_word hG (gNN_of s10.2.1 P2) 115 101 101 100 0 0 0) ?_
  rintro _ q10 ⟨_, rfl, rfl, hq10⟩
  rw [hq10]
  clear hq10
  refine j_last' 10 dX12_init_682 rfl (hG 119 (3, 23) rfl) (show vp_in (nI 10) 23 from vp_in_nI (by decide) (by decide)) (by decide) ?_
  have s11 : wrdW μ2 11 (wL w10 119 10 (apW 115 101 101 100 0 0 0)) := wrdW_s s10 (x := apW 115 101 101 100 0 0 0) (fun w hw => by obtain rfl : [19, 5, 5, 4] = w := Option.some.inj hw; decide +kernel)
  generalize wL w10 119 10 (apW 115 101 101 100 0 0 0) = w11 at s11 ⊢
  refine j_aload_n dX12_init_683 rfl rfl ?_
  refine j_getR (ci := 12) (N := 80) (f := 9) (T := TX12) 119 dX12_init_684 rfl (hG 112 (17, 80) rfl) rfl (by decide) fl_X12_34 rfl ((gNN_of s11.2.1 P2) 112 9 119 rfl) ?_
  refine j_bipush 11 dX12_init_687 rfl (by decide) ?_
  refine j_bipush 105 dX12_init_689 rfl (by decide) ?_
  refine j_bipush 102 dX12_init_691 rfl (by decide) ?_
  refine j_iconst 0 dX12_init_693 rfl (by decide) ?_
  refine j_iconst 0 dX12_init_694 rfl (by decide) ?_
  refine j_iconst 0 dX12_init_695 rfl (by decide) ?_
  refine j_iconst 0 dX12_init_696 rfl (by decide) ?_
  refine j_iconst 0 dX12_init_697 rfl (by decide) ?_
  refine j_cS (as := [.int 105, .int 102, .int 0, .int 0, .int 0, .int 0, .int 0]) (rest := [.int 11, .ref 119]) dX12_init_698 rfl vw_X12_186 ⟨(Nat.le_of_ble_eq_true rfl), (Nat.le_of_ble_eq_true rfl)⟩ rfl rfl (fun _ _ => (Nat.le_of_ble_eq_true rfl)) (c_X12_word hG (gNN_of s11.2.1 P2) 105 102 0 0 0 0 0) ?_
  rintro _ q11 ⟨_, rfl, rfl, hq11⟩
  rw [hq11]
  clear hq11
  refine j_last' 11 dX12_init_701 rfl (hG 119 (3, 23) rfl) (show vp_in (nI 11) 23 from vp_in_nI (by decide) (by decide)) (by decide) ?_
  have s12 : wrdW μ2 12 (wL w11 119 11 (apW 105 102 0 0 0 0 0)) := wrdW_s s11 (x := apW 105 102 0 0 0 0 0) (fun w hw => by obtain rfl : [9, 6] = w := Option.some.inj hw; decide +kernel)
  generalize wL w11 119 11 (apW 105 102 0 0 0 0 0) = w12 at s12 ⊢
  refine j_aload_n dX12_init_702 rfl rfl ?_
  refine j_getR (ci := 12) (N := 80) (f := 9) (T := TX12) 119 dX12_init_703 rfl (hG 112 (17, 80) rfl) rfl (by decide) fl_X12_34 rfl ((gNN_of s12.2.1 P2) 112 9 119 rfl) ?_
  refine j_bipush 12 dX12_init_706 rfl (by decide) ?_
  refine j_bipush 116 dX12_init_708 rfl (by decide) ?_
  refine j_bipush 104 dX12_init_710 rfl (by decide) ?_
  refine j_bipush 101 dX12_init_712 rfl (by decide) ?_
  refine j_bipush 110 dX12_init_714 rfl (by decide) ?_
  refine j_iconst 0 dX12_init_716 rfl (by decide) ?_
  refine j_iconst 0 dX12_init_717 rfl (by decide) ?_
  refine j_iconst 0 dX12_init_718 rfl (by decide) ?_
  refine j_cS (as := [.int 116, .int 104, .int 101, .int 110, .int 0, .int 0, .int 0]) (rest := [.int 12, .ref 119]) dX12_init_719 rfl vw_X12_186 ⟨(Nat.le_of_ble_eq_true rfl), (Nat.le_of_ble_eq_true rfl)⟩ rfl rfl (fun _ _ => (Nat.le_of_ble_eq_true rfl)) (c_X12_word hG (gNN_of s12.2.1 P2) 116 104 101 110 0 0 0) ?_
  rintro _ q12 ⟨_, rfl, rfl, hq12⟩
  rw [hq12]
  clear hq12
  refine j_last' 12 dX12_init_722 rfl (hG 119 (3, 23) rfl) (show vp_in (nI 12) 23 from vp_in_nI (by decide) (by decide)) (by decide) ?_
  have s13 : wrdW μ2 13 (wL w12 119 12 (apW 116 104 101 110 0 0 0)) := wrdW_s s12 (x := apW 116 104 101 110 0 0 0) (fun w hw => by obtain rfl : [20, 8, 5, 14] = w := Option.some.inj hw; decide +kernel)
  generalize wL w12 119 12 (apW 116 104 101 110 0 0 0) = w13 at s13 ⊢
  refine j_aload_n dX12_init_723 rfl rfl ?_
  refine j_getR (ci := 12) (N := 80) (f := 9) (T := TX12) 119 dX12_init_724 rfl (hG 112 (17, 80) rfl) rfl (by decide) fl_X12_34 rfl ((gNN_of s13.2.1 P2) 112 9 119 rfl) ?_
  refine j_bipush 13 dX12_init_727 rfl (by decide) ?_
  refine j_bipush 101 dX12_init_729 rfl (by decide) ?_
  refine j_bipush 108 dX12_init_731 rfl (by decide) ?_
  refine j_bipush 115 dX12_init_733 rfl (by decide) ?_
  refine j_bipush 101 dX12_init_735 rfl (by decide) ?_
  refine j_iconst 0 dX12_init_737 rfl (by decide) ?_
  refine j_iconst 0 dX12_init_738 rfl (by decide) ?_
  refine j_iconst 0 dX12_init_739 rfl (by decide) ?_
  refine j_cS (as := [.int 101, .int 108, .int 115, .int 101, .int 0, .int 0, .int 0]) (rest := [.int 13, .ref 119]) dX12_init_740 rfl vw_X12_186 ⟨(Nat.le_of_ble_eq_true rfl), (Nat.le_of_ble_eq_true rfl)⟩ rfl rfl (fun _ _ => (Nat.le_of_ble_eq_true rfl)) (c_X12_word hG (gNN_of s13.2.1 P2) 101 108 115 101 0 0 0) ?_
  rintro _ q13 ⟨_, rfl, rfl, hq13⟩
  rw [hq13]
  clear hq13
  refine j_last' 13 dX12_init_743 rfl (hG 119 (3, 23) rfl) (show vp_in (nI 13) 23 from vp_in_nI (by decide) (by decide)) (by decide) ?_
  have s14 : wrdW μ2 14 (wL w13 119 13 (apW 101 108 115 101 0 0 0)) := wrdW_s s13 (x := apW 101 108 115 101 0 0 0) (fun w hw => by obtain rfl : [5, 12, 19, 5] = w := Option.some.inj hw; decide +kernel)
  generalize wL w13 119 13 (apW 101 108 115 101 0 0 0) = w14 at s14 ⊢
  refine j_aload_n dX12_init_744 rfl rfl ?_
  refine j_getR (ci := 12) (N := 80) (f := 9) (T := TX12) 119 dX12_init_745 rfl (hG 112 (17, 80) rfl) rfl (by decide) fl_X12_34 rfl ((gNN_of s14.2.1 P2) 112 9 119 rfl) ?_
  refine j_bipush 14 dX12_init_748 rfl (by decide) ?_
  refine j_bipush 107 dX12_init_750 rfl (by decide) ?_
  refine j_bipush 105 dX12_init_752 rfl (by decide) ?_
  refine j_bipush 110 dX12_init_754 rfl (by decide) ?_
  refine j_bipush 100 dX12_init_756 rfl (by decide) ?_
  refine j_iconst 0 dX12_init_758 rfl (by decide) ?_
  refine j_iconst 0 dX12_init_759 rfl (by decide) ?_
  refine j_iconst 0 dX12_init_760 rfl (by decide) ?_
  refine j_cS (as := [.int 107, .int 105, .int 110, .int 100, .int 0, .int 0, .int 0]) (rest := [.int 14, .ref 119]) dX12_init_761 rfl vw_X12_186 ⟨(Nat.le_of_ble_eq_true rfl), (Nat.le_of_ble_eq_true rfl)⟩ rfl rfl (fun _ _ => (Nat.le_of_ble_eq_true rfl)) (c_X12_word hG (gNN_of s14.2.1 P2) 107 105 110 100 0 0 0) ?_
  rintro _ q14 ⟨_, rfl, rfl, hq14⟩
  rw [hq14]
  clear hq14
  refine j_last' 14 dX12_init_764 rfl (hG 119 (3, 23) rfl) (show vp_in (nI 14) 23 from vp_in_nI (by decide) (by decide)) (by decide) ?_
  have s15 : wrdW μ2 15 (wL w14 119 14 (apW 107 105 110 100 0 0 0)) := wrdW_s s14 (x := apW 107 105 110 100 0 0 0) (fun w hw => by obtain rfl : [11, 9, 14, 4] = w := Option.some.inj hw; decide +kernel)
  generalize wL w14 119 14 (apW 107 105 110 100 0 0 0) = w15 at s15 ⊢
  refine j_aload_n dX12_init_765 rfl rfl ?_
  refine j_getR (ci := 12) (N := 80) (f := 9) (T := TX12) 119 dX12_init_766 rfl (hG 112 (17, 80) rfl) rfl (by decide) fl_X12_34 rfl ((gNN_of s15.2.1 P2) 112 9 119 rfl) ?_
  refine j_bipush 15 dX12_init_769 rfl (by decide) ?_
  refine j_bipush 99 dX12_init_771 rfl (by decide) ?_
  refine j_bipush 97 dX12_init_773 rfl (by decide) ?_
  refine j_bipush 114 dX12_init_775 rfl (by decide) ?_
  refine j_bipush 114 dX12_init_777 rfl (by decide) ?_
  refine j_bipush 105 dX12_init_779 rfl (by decide) ?_
  refine j_bipush 101 dX12_init_781 rfl (by decide) ?_
  refine j_bipush 115 dX12_init_783 rfl (by decide) ?_
  refine j_cS (as := [.int 99, .int 97, .int 114, .int 114, .int 105, .int 101, .int 115]) (rest := [.int 15, .ref 119]) dX12_init_785 rfl vw_X12_186 ⟨(Nat.le_of_ble_eq_true rfl), (Nat.le_of_ble_eq_true rfl)⟩ rfl rfl (fun _ _ => (Nat.le_of_ble_eq_true rfl)) (c_X12_word hG (gNN_of s15.2.1 P2) 99 97 114 114 105 101 115) ?_
  rintro _ q15 ⟨_, rfl, rfl, hq15⟩
  rw [hq15]
  clear hq15
  refine j_last' 15 dX12_init_788 rfl (hG 119 (3, 23) rfl) (show vp_in (nI 15) 23 from vp_in_nI (by decide) (by decide)) (by decide) ?_
  have s16 : wrdW μ2 16 (wL w15 119 15 (apW 99 97 114 114 105 101 115)) := wrdW_s s15 (x := apW 99 97 114 114 105 101 115) (fun w hw => by obtain rfl : [3, 1, 18, 18, 9, 5, 19] = w := Option.some.inj hw; decide +kernel)
  generalize wL w15 119 15 (apW 99 97 114 114 105 101 115) = w16 at s16 ⊢
  refine j_aload_n dX12_init_789 rfl rfl ?_
  refine j_getR (ci := 12) (N := 80) (f := 9) (T := TX12) 119 dX12_init_790 rfl (hG 112 (17, 80) rfl) rfl (by decide) fl_X12_34 rfl ((gNN_of s16.2.1 P2) 112 9 119 rfl) ?_
  refine j_bipush 16 dX12_init_793 rfl (by decide) ?_
  refine j_bipush 101 dX12_init_795 rfl (by decide) ?_
  refine j_bipush 118 dX12_init_797 rfl (by decide) ?_
  refine j_bipush 101 dX12_init_799 rfl (by decide) ?_
  refine j_bipush 114 dX12_init_801 rfl (by decide) ?_
  refine j_bipush 121 dX12_init_803 rfl (by decide) ?_
  refine j_iconst 0 dX12_init_805 rfl (by decide) ?_
  refine j_iconst 0 dX12_init_806 rfl (by decide) ?_
  refine j_cS (as := [.int 101, .int 118, .int 101, .int 114, .int 121, .int 0, .int 0]) (rest := [.int 16, .ref 119]) dX12_init_807 rfl vw_X12_186 ⟨(Nat.le_of_ble_eq_true rfl), (Nat.le_of_ble_eq_true rfl)⟩ rfl rfl (fun _ _ => (Nat.le_of_ble_eq_true rfl)) (c_X12_word hG (gNN_of s16.2.1 P2) 101 118 101 114 121 0 0) ?_
  rintro _ q16 ⟨_, rfl, rfl, hq16⟩
  rw [hq16]
  clear hq16
  refine j_last' 16 dX12_init_810 rfl (hG 119 (3, 23) rfl) (show vp_in (nI 16) 23 from vp_in_nI (by decide) (by decide)) (by decide) ?_
  have s17 : wrdW μ2 17 (wL w16 119 16 (apW 101 118 101 114 121 0 0)) := wrdW_s s16 (x := apW 101 118 101 114 121 0 0) (fun w hw => by obtain rfl : [5, 22, 5, 18, 25] = w := Option.some.inj hw; decide +kernel)
  generalize wL w16 119 16 (apW 101 118 101 114 121 0 0) = w17 at s17 ⊢
  refine j_aload_n dX12_init_811 rfl rfl ?_
  refine j_getR (ci := 12) (N := 80) (f := 9) (T := TX12) 119 dX12_init_812 rfl (hG 112 (17, 80) rfl) rfl (by decide) fl_X12_34 rfl ((gNN_of s17.2.1 P2) 112 9 119 rfl) ?_
  refine j_bipush 17 dX12_init_815 rfl (by decide) ?_
  refine j_bipush 102 dX12_init_817 rfl (by decide) ?_
  refine j_bipush 111 dX12_init_819 rfl (by decide) ?_
  refine j_bipush 103 dX12_init_821 rfl (by decide) ?_
  refine j_bipush 103 dX12_init_823 rfl (by decide) ?_
  refine j_bipush 121 dX12_init_825 rfl (by decide) ?_
  refine j_iconst 0 dX12_init_827 rfl (by decide) ?_
  refine j_iconst 0 dX12_init_828 rfl (by decide) ?_
  refine j_cS (as := [.int 102, .int 111, .int 103, .int 103, .int 121, .int 0, .int 0]) (rest := [.int 17, .ref 119]) dX12_init_829 rfl vw_X12_186 ⟨(Nat.le_of_ble_eq_true rfl), (Nat.le_of_ble_eq_true rfl)⟩ rfl rfl (fun _ _ => (Nat.le_of_ble_eq_true rfl)) (c_X12_word hG (gNN_of s17.2.1 P2) 102 111 103 103 121 0 0) ?_
  rintro _ q17 ⟨_, rfl, rfl, hq17⟩
  rw [hq17]
  clear hq17
  refine j_last' 17 dX12_init_832 rfl (hG 119 (3, 23) rfl) (show vp_in (nI 17) 23 from vp_in_nI (by decide) (by decide)) (by decide) ?_
  have s18 : wrdW μ2 18 (wL w17 119 17 (apW 102 111 103 103 121 0 0)) := wrdW_s s17 (x := apW 102 111 103 103 121 0 0) (fun w hw => by obtain rfl : [6, 15, 7, 7, 25] = w := Option.some.inj hw; decide +kernel)
  generalize wL w17 119 17 (apW 102 111 103 103 121 0 0) = w18 at s18 ⊢
  refine j_aload_n dX12_init_833 rfl rfl ?_
  refine j_getR (ci := 12) (N := 80) (f := 9) (T := TX12) 119 dX12_init_834 rfl (hG 112 (17, 80) rfl) rfl (by decide) fl_X12_34 rfl ((gNN_of s18.2.1 P2) 112 9 119 rfl) ?_
  refine j_bipush 18 dX12_init_837 rfl (by decide) ?_
  refine j_bipush 114 dX12_init_839 rfl (by decide) ?_
  refine j_bipush 97 dX12_init_841 rfl (by decide) ?_
  refine j_bipush 116 dX12_init_843 rfl (by decide) ?_
  refine j_bipush 101 dX12_init_845 rfl (by decide) ?_
  refine j_iconst 0 dX12_init_847 rfl (by decide) ?_
  refine j_iconst 0 dX12_init_848 rfl (by decide) ?_
  refine j_iconst 0 dX12_init_849 rfl (by decide) ?_
  refine j_cS (as := [.int 114, .int 97, .int 116, .int 101, .int 0, .int 0, .int 0]) (rest := [.int 18, .ref 119]) dX12_init_850 rfl vw_X12_186 ⟨(Nat.le_of_ble_eq_true rfl), (Nat.le_of_ble_eq_true rfl)⟩ rfl rfl (fun _ _ => (Nat.le_of_ble_eq_true rfl)) (c_X12_word hG (gNN_of s18.2.1 P2) 114 97 116 101 0 0 0) ?_
  rintro _ q18 ⟨_, rfl, rfl, hq18⟩
  rw [hq18]
  clear hq18
  refine j_last' 18 dX12_init_853 rfl (hG 119 (3, 23) rfl) (show vp_in (nI 18) 23 from vp_in_nI (by decide) (by decide)) (by decide) ?_
  have s19 : wrdW μ2 19 (wL w18 119 18 (apW 114 97 116 101 0 0 0)) := wrdW_s s18 (x := apW 114 97 116 101 0 0 0) (fun w hw => by obtain rfl : [18, 1, 20, 5] = w := Option.some.inj hw; decide +kernel)
  generalize wL w18 119 18 (apW 114 97 116 101 0 0 0) = w19 at s19 ⊢
  refine j_aload_n dX12_init_854 rfl rfl ?_
  refine j_getR (ci := 12) (N := 80) (f := 9) (T := TX12) 119 dX12_init_855 rfl (hG 112 (17, 80) rfl) rfl (by decide) fl_X12_34 rfl ((gNN_of s19.2.1 P2) 112 9 119 rfl) ?_
  refine j_bipush 19 dX12_init_858 rfl (by decide) ?_
  refine j_bipush 104 dX12_init_860 rfl (by decide) ?_
  refine j_bipush 111 dX12_init_862 rfl (by decide) ?_
  refine j_bipush 117 dX12_init_864 rfl (by decide) ?_
  refine j_bipush 114 dX12_init_866 rfl (by decide) ?_
  refine j_bipush 115 dX12_init_868 rfl (by decide) ?_
  refine j_iconst 0 dX12_init_870 rfl (by decide) ?_
  refine j_iconst 0 dX12_init_871 rfl (by decide) ?_
  refine j_cS (as := [.int 104, .int 111, .int 117, .int 114, .int 115, .int 0, .int 0]) (rest := [.int 19, .ref 119]) dX12_init_872 rfl vw_X12_186 ⟨(Nat.le_of_ble_eq_true rfl), (Nat.le_of_ble_eq_true rfl)⟩ rfl rfl (fun _ _ => (Nat.le_of_ble_eq_true rfl)) (c_X12_word hG (gNN_of s19.2.1 P2) 104 111 117 114 115 0 0) ?_
  rintro _ q19 ⟨_, rfl, rfl, hq19⟩
  rw [hq19]
  clear hq19
  refine j_last' 19 dX12_init_875 rfl (hG 119 (3, 23) rfl) (show vp_in (nI 19) 23 from vp_in_nI (by decide) (by decide)) (by decide) ?_
  have s20 : wrdW μ2 20 (wL w19 119 19 (apW 104 111 117 114 115 0 0)) := wrdW_s s19 (x := apW 104 111 117 114 115 0 0) (fun w hw => by obtain rfl : [8, 15, 21, 18, 19] = w := Option.some.inj hw; decide +kernel)
  generalize wL w19 119 19 (apW 104 111 117 114 115 0 0) = w20 at s20 ⊢
  refine j_aload_n dX12_init_876 rfl rfl ?_
  refine j_getR (ci := 12) (N := 80) (f := 9) (T := TX12) 119 dX12_init_877 rfl (hG 112 (17, 80) rfl) rfl (by decide) fl_X12_34 rfl ((gNN_of s20.2.1 P2) 112 9 119 rfl) ?_
  refine j_bipush 20 dX12_init_880 rfl (by decide) ?_
  refine j_bipush 119 dX12_init_882 rfl (by decide) ?_
  refine j_bipush 101 dX12_init_884 rfl (by decide) ?_
  refine j_bipush 97 dX12_init_886 rfl (by decide) ?_
  refine j_bipush 114 dX12_init_888 rfl (by decide) ?_
  refine j_iconst 0 dX12_init_890 rfl (by decide) ?_
  refine j_iconst 0 dX12_init_891 rfl (by decide) ?_
  refine j_iconst 0 dX12_init_892 rfl (by decide) ?_
  refine j_cS (as := [.int 119, .int 101, .int 97, .int 114, .int 0, .int 0, .int 0]) (rest := [.int 20, .ref 119]) dX12_init_893 rfl vw_X12_186 ⟨(Nat.le_of_ble_eq_true rfl), (Nat.le_of_ble_eq_true rfl)⟩ rfl rfl (fun _ _ => (Nat.le_of_ble_eq_true rfl)) (c_X12_word hG (gNN_of s20.2.1 P2) 119 101 97 114 0 0 0) ?_
  rintro _ q20 ⟨_, rfl, rfl, hq20⟩
  rw [hq20]
  clear hq20
  refine j_last' 20 dX12_init_896 rfl (hG 119 (3, 23) rfl) (show vp_in (nI 20) 23 from vp_in_nI (by decide) (by decide)) (by decide) ?_
  have s21 : wrdW μ2 21 (wL w20 119 20 (apW 119 101 97 114 0 0 0)) := wrdW_s s20 (x := apW 119 101 97 114 0 0 0) (fun w hw => by obtain rfl : [23, 5, 1, 18] = w := Option.some.inj hw; decide +kernel)
  generalize wL w20 119 20 (apW 119 101 97 114 0 0 0) = w21 at s21 ⊢
  refine j_aload_n dX12_init_897 rfl rfl ?_
  refine j_getR (ci := 12) (N := 80) (f := 9) (T := TX12) 119 dX12_init_898 rfl (hG 112 (17, 80) rfl) rfl (by decide) fl_X12_34 rfl ((gNN_of s21.2.1 P2) 112 9 119 rfl) ?_
  refine j_bipush 21 dX12_init_901 rfl (by decide) ?_
  refine j_bipush 119 dX12_init_903 rfl (by decide) ?_
  refine j_bipush 104 dX12_init_905 rfl (by decide) ?_
  refine j_bipush 105 dX12_init_907 rfl (by decide) ?_
  refine j_bipush 99 dX12_init_909 rfl (by decide) ?_
  refine j_bipush 104 dX12_init_911 rfl (by decide) ?_
  refine j_iconst 0 dX12_init_913 rfl (by decide) ?_
  refine j_iconst 0 dX12_init_914 rfl (by decide) ?_
  refine j_cS (as := [.int 119, .int 104, .int 105, .int 99, .int 104, .int 0, .int 0]) (rest := [.int 21, .ref 119]) dX12_init_915 rfl vw_X12_186 ⟨(Nat.le_of_ble_eq_true rfl), (Nat.le_of_ble_eq_true rfl)⟩ rfl rfl (fun _ _ => (Nat.le_of_ble_eq_true rfl)) (c_X12_word hG (gNN_of s21.2.1 P2) 119 104 105 99 104 0 0) ?_
  rintro _ q21 ⟨_, rfl, rfl, hq21⟩
  rw [hq21]
  clear hq21
  refine j_last' 21 dX12_init_918 rfl (hG 119 (3, 23) rfl) (show vp_in (nI 21) 23 from vp_in_nI (by decide) (by decide)) (by decide) ?_
  have s22 : wrdW μ2 22 (wL w21 119 21 (apW 119 104 105 99 104 0 0)) := wrdW_s s21 (x := apW 119 104 105 99 104 0 0) (fun w hw => by obtain rfl : [23, 8, 9, 3, 8] = w := Option.some.inj hw; decide +kernel)
  generalize wL w21 119 21 (apW 119 104 105 99 104 0 0) = w22 at s22 ⊢
  refine j_aload_n dX12_init_919 rfl rfl ?_
  refine j_getR (ci := 12) (N := 80) (f := 9) (T := TX12) 119 dX12_init_920 rfl (hG 112 (17, 80) rfl) rfl (by decide) fl_X12_34 rfl ((gNN_of s22.2.1 P2) 112 9 119 rfl) ?_
  refine j_bipush 22 dX12_init_923 rfl (by decide) ?_
  refine j_bipush 110 dX12_init_925 rfl (by decide) ?_
  refine j_bipush 105 dX12_init_927 rfl (by decide) ?_
  refine j_bipush 103 dX12_init_929 rfl (by decide) ?_
  refine j_bipush 104 dX12_init_931 rfl (by decide) ?_
  refine j_bipush 116 dX12_init_933 rfl (by decide) ?_
  refine j_iconst 0 dX12_init_935 rfl (by decide) ?_
  refine j_iconst 0 dX12_init_936 rfl (by decide) ?_
  refine j_cS (as := [.int 110, .int 105, .int 103, .int 104, .int 116, .int 0, .int 0]) (rest := [.int 22, .ref 119]) dX12_init_937 rfl vw_X12_186 ⟨(Nat.le_of_ble_eq_true rfl), (Nat.le_of_ble_eq_true rfl)⟩ rfl rfl (fun _ _ => (Nat.le_of_ble_eq_true rfl)) (c_X12_word hG (gNN_of s22.2.1 P2) 110 105 103 104 116 0 0) ?_
  rintro _ q22 ⟨_, rfl, rfl, hq22⟩
  rw [hq22]
  clear hq22
  refine j_last' 22 dX12_init_940 rfl (hG 119 (3, 23) rfl) (show vp_in (nI 22) 23 from vp_in_nI (by decide) (by decide)) (by decide) ?_
  have s23 : wrdW μ2 23 (wL w22 119 22 (apW 110 105 103 104 116 0 0)) := wrdW_s s22 (x := apW 110 105 103 104 116 0 0) (fun w hw => by obtain rfl : [14, 9, 7, 8, 20] = w := Option.some.inj hw; decide +kernel)
  generalize wL w22 119 22 (apW 110 105 103 104 116 0 0) = w23 at s23 ⊢
  have K3 : kwM w23 := s23.2.2.2
  have I3 := s23.1
  have R3 := s23.2.1
  have L3 : ∀ c, c ≠ 119 → w23.2.1 c = μ2.2.1 c := s23.2.2.1
  have P3 : gNN w23 := gNN_of R3 P2
  obtain ⟨μ3, e3⟩ : ∃ m, w23 = m := ⟨_, rfl⟩
  rw [e3] at K3 L3 P3 I3 R3 ⊢
  have t3 : txM μ3 0 T0 dLaw := mk_T0 (by rw [I3, f2]; exact z18) (by unfold dI at d2 ⊢; rw [I3]; exact d2) (by rw [I3]; exact l2)
  have c152 : μ3.1 152 = fun _ => 0 := by rw [I3, o2.c 152, z152]
  have c151 : μ3.1 151 = fun _ => 0 := by rw [I3, o2.c 151, z151]
  have c165 : μ3.1 165 = fun _ => 0 := by rw [I3, o2.c 165, z165]
  refine j_aload_n dX12_init_941 rfl rfl ?_
  refine j_cV (as := []) (rest := []) dX12_init_942 rfl vw_X12_190 (hG 112 (17, 80) rfl) rfl ⟨Nat.le_of_ble_eq_true rfl, Nat.le_of_ble_eq_true rfl⟩ rfl rfl (fun _ _ => Nat.le_of_ble_eq_true rfl) (c_X12_begins hG P3 t3 (fun i _ => by rw [c152])) ?_
  rintro _ μ4 ⟨rfl, o4, r4⟩
  have P4 : gNN μ4 := gNN_of (by rw [o4.1]) P3
  have e4 : ∀ c, c ≠ 112 → c ≠ 152 → μ4.1 c = μ3.1 c := fun c h1 h2 => o4.2.1 c h1 (by simp; exact h2)
  refine j_aload_n dX12_init_945 rfl rfl ?_
  refine j_cV (as := []) (rest := []) dX12_init_946 rfl vw_X12_193 (hG 112 (17, 80) rfl) rfl ⟨Nat.le_of_ble_eq_true rfl, Nat.le_of_ble_eq_true rfl⟩ rfl rfl (fun _ _ => Nat.le_of_ble_eq_true rfl) (c_X12_keepsRow hG P4 (fun i hi => by rw [e4 151 (by decide) (by decide), c151, r4.1, bg_hi i hi])) ?_
  rintro _ μ5 ⟨rfl, o5, r5⟩
  have P5 : gNN μ5 := gNN_of (by rw [o5.1]) P4
  have e5 : ∀ c, c ≠ 112 → c ≠ 151 → c ≠ 152 → μ5.1 c = μ3.1 c := fun c h1 h2 h3 => by rw [o5.2.1 c h1 (by simp; exact h2), e4 c h1 h3]
  have f5 : ∀ f, f ≠ 58 → f ≠ 59 → f ≠ 60 → μ5.1 112 f = μ1.1 112 f := fun f h1 h2 h3 => by rw [o5.2.2 f (by simp), o4.2.2 f (by simp; exact ⟨h1, h2, h3⟩), I3, f2]
  have t5 : txM μ5 0 T0 dLaw := mk_T0 (by rw [f5 18 (by decide) (by decide) (by decide)]; exact z18) (by unfold dI at d2 ⊢; rw [e5 122 (by decide) (by decide) (by decide), e5 123 (by decide) (by decide) (by decide), e5 129 (by decide) (by decide) (by decide), e5 128 (by decide) (by decide) (by decide), e5 135 (by decide) (by decide) (by decide), e5 136 (by decide) (by decide) (by decide), e5 137 (by decide) (by decide) (by decide), e5 138 (by decide) (by decide) (by decide), I3]; exact d2) (by rw [e5 139 (by decide) (by decide) (by decide), e5 140 (by decide) (by decide) (by decide), I3]; exact l2)
  have r152 : μ5.1 152 = sBg T0 := by rw [o5.2.1 152 (by decide) (by decide)]; exact r4.1
  have lo : lowE μ μ5 := L1.trans (fun c hc => ⟨by rw [o5.2.1 c (by omega) (by simp; omega), e4 c (by omega) (by omega), I3, o2.2.1 c (by omega) (by simp; omega)], by rw [o5.1, o4.1, L3 c (by omega), o2.2.2.2 c (by simp)], by rw [o5.1, o4.1, R3, o2.1]⟩)
  have cl5 : jCl gM μ5 := fun a f x ha hx => cl a f x ha (by rw [o5.1, o4.1, R3, o2.1] at hx; exact hx)
  refine j_vretA dX12_init_949 rfl ⟨rfl, rfl, P5, ⟨⟨0, t5, by rw [r5]; exact r4.1, fun i hi => by rw [r152]; exact bg_hi i hi, bg_hi, bg_rt (T := T0)⟩, ⟨?_, Nat.zero_le _, fun i b h => by cases h⟩, ?_, ⟨?_, Nat.zero_le _, fun j R h => by cases h⟩, fun s _ => ⟨?_, fun h => by cases h⟩, ⟨?_, Nat.zero_le _, fun i d h => by cases h⟩⟩, ?_, lo, cl5⟩
  · rw [f5 2 (by decide) (by decide) (by decide)]; exact z2
  · rw [f5 17 (by decide) (by decide) (by decide)]; exact z17
  · rw [f5 66 (by decide) (by decide) (by decide)]; exact z66
  · rw [e5 165 (by decide) (by decide) (by decide), c165]; rfl
  · rw [f5 71 (by decide) (by decide) (by decide)]; exact z71
  · unfold kwM at K3 ⊢; rw [o5.1, o4.1]; exact K3
end FirstM
