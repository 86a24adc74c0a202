/-! CONSTRUCTORS: Reader, GhostPike, GhostPikeModel -/
def sX7 : jG := [(0, 401), (0, 401), (3, 401), (3, 23)]
/-- the words of the language, as they are kept -/
def wordC (i : Nat) : Int64 := match wrds[i]? with
  | some w => lN (en 32 w)
  | none => 0
def kX7a (μ : jM) : jM := wP (z0 (wP (z0 (wP (z0 (wP (z0 μ 5) 4 0 (some 5)) 6) 4 1 (some 6)) 7) 4 2 (some 7)) 8) 4 3 (some 8)
def kX7 (μ : jM) : jM := sL (kX7a μ) 8 wordC
theorem kc_X7a {G : jG} {μ : jM} (h0 : G.length = 5) (c0 : jCl G μ) (_ : 4 < 5) : jCl (G ++ sX7) (kX7a μ) := by
  have h1 := gl (s := [(0, 401)]) (m := 1) (g' := 6) h0 rfl rfl
  have c1 := cl_arr (sh := (0, 401)) (f := 0) h0 c0 (show 4 < 5 by omega)
  have h2 := gl (s := [(0, 401)]) (m := 1) (g' := 7) h1 rfl rfl
  have c2 := cl_arr (sh := (0, 401)) (f := 1) h1 c1 (show 4 < 6 by omega)
  have h3 := gl (s := [(3, 401)]) (m := 1) (g' := 8) h2 rfl rfl
  have c3 := cl_arr (sh := (3, 401)) (f := 2) h2 c2 (show 4 < 7 by omega)
  have c4 := cl_arr (sh := (3, 23)) (f := 3) h3 c3 (show 4 < 8 by omega)
  have e : G ++ sX7 = G ++ [(0, 401)] ++ [(0, 401)] ++ [(3, 401)] ++ [(3, 23)] := by simp only [List.append_assoc, List.cons_append, List.nil_append]; rfl
  rw [e]
  exact c4
theorem kc_X7 {G : jG} {μ : jM} (h0 : G.length = 5) (c0 : jCl G μ) (ht : 4 < 5) : jCl (G ++ sX7) (kX7 μ) := kc_X7a h0 c0 ht
def kX4 (μ : jM) : jM := (wP (z0 (wP (z0 (wP (z0 (wP (kX7 (z0 μ 4)) 3 1 (some 4)) 9) 3 2 (some 9)) 10) 3 3 (some 10)) 11) 3 4 (some 11))
def sX4 : jG := [(12, 4), (0, 401), (0, 401), (3, 401), (3, 23), (3, 8), (3, 7), (0, 24)]
theorem n_X4 {l : Launch} {G : jG} {μ : jM} {X : jEX} (h0 : G.length = 4) (t0 : G[3]? = some (9, 13)) (c0 : jCl G μ) (ht : 3 < 4) (hX : jXs X) (h7 : ∀ (G : jG) (μ : jM), G.length = 5 → G[4]? = some (12, 4) → jCl G μ → jCA l mX7_init 6 4 1226 G [.ref 4] μ (fun r μ' G' => r = none ∧ G' = G ++ sX7 ∧ μ' = kX7 μ) X) : jCA l mX4_init 7 8 1269 G [.ref 3] μ (fun r μ' G' => r = none ∧ G' = G ++ sX4 ∧ μ' = kX4 μ) X := by
  refine jCA.of (ls := [.ref 3]) rfl rfl (jnd_ok rfl) (fun _ _ => (Nat.le_of_ble_eq_true rfl)) ?_
  rw [h0]
  refine j_aload_n dX4_init_0 rfl rfl ?_
  refine j_objInit dX4_init_1 rfl ml_X4_3 im_obj co_obj ⟨(Nat.le_of_ble_eq_true rfl), (Nat.le_of_ble_eq_true rfl)⟩ rfl ?_
  refine j_aload_n dX4_init_4 rfl rfl ?_
  refine k_new (g := 4) (ci := 7) (N := 4) (k' := 1) (n' := 4) h0 c0 (jSc_r (by omega) (jSc_r (by omega) jSc_0)) (by omega) dX4_init_5 rfl rfl cl_X4_9 it_X7 in_X7 rfl rfl (Nat.le_of_ble_eq_true rfl) (Nat.le_of_ble_eq_true rfl) ?_
  have h1 := gl (s := [(12, 4)]) (m := 1) (g' := 5) h0 rfl rfl
  have c1 := cl_z (sh := (12, 4)) h0 c0
  have t1_0 := gx (s := [(12, 4)]) t0
  have t1_1 := gw (s := [(12, 4)]) (i := 0) (sh := (12, 4)) h0 rfl
  refine j_dup dX4_init_8 rfl (fun _ _ => rfl) ?_
  refine j_cIA (as := []) (rest := [.ref 4, .ref 3]) (mc := 4) (ms := 1226) dX4_init_9 rfl vw_X4_11 rfl ⟨(Nat.le_of_ble_eq_true rfl), (Nat.le_of_ble_eq_true rfl)⟩ rfl rfl (fun _ _ => (Nat.le_of_ble_eq_true rfl)) hX (fun _ _ _ _ h => h) ⟨(Nat.le_of_ble_eq_true rfl), (Nat.le_of_ble_eq_true rfl)⟩ (jZg_A (by rw [h1]; omega)) (by rw [h1]; exact (jSc_r (by omega) (jSc_r (by omega) (jSc_r (by omega) jSc_0)))) (h7 _ _ h1 t1_1 c1) ?_
  rintro _ _ _ ⟨rfl, rfl, rfl⟩
  have h2 := gl (s := sX7) (m := 4) (g' := 9) h1 rfl rfl
  have c2 := kc_X7 h1 c1 (by omega)
  have t2_0 := gx (s := sX7) t1_0
  have t2_1 := gx (s := sX7) t1_1
  refine j_putFR (ci := 4) (N := 13) (f := 1) (T := TX4) dX4_init_12 rfl t2_0 rfl (by decide) fl_X4_12 rfl rfl rfl rfl ?_
  have c3 := cl_p (t := 3) (f := 1) (x := 4) c2 (by rw [h2]; omega)
  refine j_aload_n dX4_init_15 rfl rfl ?_
  refine j_bipush 8 dX4_init_16 rfl (by decide) ?_
  refine k_arr (g := 9) (t := 3) (f := 2) (ci := 4) (NF := 13) (T := TX4) (kd := 3) (N := 8) (k' := 6) (n' := 1238) h2 c3 (jSc_r (by omega) jSc_0) (by omega) dX4_init_18 dX4_init_20 rfl rfl (Or.inr (Or.inr (Or.inr ⟨rfl, rfl⟩))) ac_long (by decide) rfl (by decide) rfl rfl (Nat.le_of_ble_eq_true rfl) (Nat.le_of_ble_eq_true rfl) t2_0 rfl (by decide) fl_X4_18 rfl rfl rfl rfl ?_
  have h4 := gl (s := [(3, 8)]) (m := 1) (g' := 10) h2 rfl rfl
  have c4 := cl_arr (sh := (3, 8)) (f := 2) h2 c3 (show 3 < 9 by omega)
  have t4_0 := gx (s := [(3, 8)]) t2_0
  refine j_aload_n dX4_init_23 rfl rfl ?_
  refine j_bipush 7 dX4_init_24 rfl (by decide) ?_
  refine k_arr (g := 10) (t := 3) (f := 3) (ci := 4) (NF := 13) (T := TX4) (kd := 3) (N := 7) (k' := 7) (n' := 1245) h4 c4 (jSc_r (by omega) jSc_0) (by omega) dX4_init_26 dX4_init_28 rfl rfl (Or.inr (Or.inr (Or.inr ⟨rfl, rfl⟩))) ac_long (by decide) rfl (by decide) rfl rfl (Nat.le_of_ble_eq_true rfl) (Nat.le_of_ble_eq_true rfl) t4_0 rfl (by decide) fl_X4_22 rfl rfl rfl rfl ?_
  have h5 := gl (s := [(3, 7)]) (m := 1) (g' := 11) h4 rfl rfl
  have c5 := cl_arr (sh := (3, 7)) (f := 3) h4 c4 (show 3 < 10 by omega)
  have t5_0 := gx (s := [(3, 7)]) t4_0
  refine j_aload_n dX4_init_31 rfl rfl ?_
  refine j_bipush 24 dX4_init_32 rfl (by decide) ?_
  refine k_arr (g := 11) (t := 3) (f := 4) (ci := 4) (NF := 13) (T := TX4) (kd := 0) (N := 24) (k' := 8) (n' := 1269) h5 c5 (jSc_r (by omega) jSc_0) (by omega) dX4_init_34 dX4_init_36 rfl rfl (Or.inl ⟨rfl, rfl⟩) ac_int (by decide) rfl (by decide) rfl rfl (Nat.le_of_ble_eq_true rfl) (Nat.le_of_ble_eq_true rfl) t5_0 rfl (by decide) fl_X4_25 rfl rfl rfl rfl ?_
  have h6 := gl (s := [(0, 24)]) (m := 1) (g' := 12) h5 rfl rfl
  have c6 := cl_arr (sh := (0, 24)) (f := 4) h5 c5 (show 3 < 11 by omega)
  have t6_0 := gx (s := [(0, 24)]) t5_0
  exact j_vretA dX4_init_39 rfl ⟨rfl, (by first | (simp only [List.append_assoc, List.cons_append, List.nil_append]; rfl) | rfl), rfl⟩
theorem kc_X4 {G : jG} {μ : jM} (h0 : G.length = 4) (c0 : jCl G μ) (ht : 3 < 4) : jCl (G ++ sX4) (kX4 μ) := by
  have h1 := gl (s := [(12, 4)]) (m := 1) (g' := 5) h0 rfl rfl
  have c1 := cl_z (sh := (12, 4)) h0 c0
  have h2 := gl (s := sX7) (m := 4) (g' := 9) h1 rfl rfl
  have c2 := kc_X7 h1 c1 (by omega)
  have c3 := cl_p (t := 3) (f := 1) (x := 4) c2 (by rw [h2]; omega)
  have h4 := gl (s := [(3, 8)]) (m := 1) (g' := 10) h2 rfl rfl
  have c4 := cl_arr (sh := (3, 8)) (f := 2) h2 c3 (show 3 < 9 by omega)
  have h5 := gl (s := [(3, 7)]) (m := 1) (g' := 11) h4 rfl rfl
  have c5 := cl_arr (sh := (3, 7)) (f := 3) h4 c4 (show 3 < 10 by omega)
  have h6 := gl (s := [(0, 24)]) (m := 1) (g' := 12) h5 rfl rfl
  have c6 := cl_arr (sh := (0, 24)) (f := 4) h5 c5 (show 3 < 11 by omega)
  have e : G ++ sX4 = G ++ [(12, 4)] ++ sX7 ++ [(3, 8)] ++ [(3, 7)] ++ [(0, 24)] := by first | (simp only [List.append_assoc, List.cons_append, List.nil_append]; rfl) | rfl
  rw [e]
  exact c6
def kX11 (μ : jM) : jM := (kX8 (z0 (wI (wP (kX8 (z0 (wP (kX0 (z0 (wP (kX1 (z0 (wP (kX3 (z0 (wP (kX5 (z0 (wP (kX10 (z0 (wP (kX4 (z0 (wP (kX6 (z0 μ 1)) 0 0 (some 1)) 3)) 0 1 (some 3)) 12)) 0 2 (some 12)) 52) 52 53) 0 3 (some 52)) 54)) 0 4 (some 54)) 57)) 0 5 (some 57)) 63)) 0 6 (some 63)) 70) 70 71) 0 7 (some 70)) 0 8 (-1)) 91) 91 92)
def sX11 : jG := [(11, 2), (1, 2000), (9, 13), (12, 4), (0, 401), (0, 401), (3, 401), (3, 23), (3, 8), (3, 7), (0, 24), (15, 11), (4, 7), (0, 12), (0, 9), (0, 24), (14, 9), (0, 12), (0, 12), (0, 8), (0, 8), (14, 9), (0, 12), (0, 12), (0, 8), (0, 8), (14, 9), (0, 12), (0, 12), (0, 8), (0, 8), (14, 9), (0, 12), (0, 12), (0, 8), (0, 8), (14, 9), (0, 12), (0, 12), (0, 8), (0, 8), (14, 9), (0, 12), (0, 12), (0, 8), (0, 8), (14, 9), (0, 12), (0, 12), (0, 8), (0, 8), (10, 1), (0, 71), (8, 5), (0, 2840), (0, 213), (6, 9), (10, 1), (0, 71), (0, 16), (0, 16), (0, 7), (5, 10), (10, 1), (0, 71), (0, 20), (0, 20), (0, 20), (0, 12), (13, 20), (0, 12), (0, 12), (0, 12), (0, 7), (0, 7), (0, 7), (0, 7), (0, 7), (7, 6), (3, 84), (0, 84), (0, 400), (7, 6), (3, 84), (0, 84), (0, 400), (7, 6), (3, 84), (0, 84), (0, 400), (13, 20), (0, 12), (0, 12), (0, 12), (0, 7), (0, 7), (0, 7), (0, 7), (0, 7), (7, 6), (3, 84), (0, 84), (0, 400), (7, 6), (3, 84), (0, 84), (0, 400), (7, 6), (3, 84), (0, 84), (0, 400)]
theorem n_X11 {l : Launch} {G : jG} {μ : jM} {X : jEX} (h0 : G.length = 1) (t0 : G[0]? = some (16, 9)) (c0 : jCl G μ) (ht : 0 < 1) (hX : jXs X) (h7 : ∀ (G : jG) (μ : jM), G.length = 5 → G[4]? = some (12, 4) → jCl G μ → jCA l mX7_init 6 4 1226 G [.ref 4] μ (fun r μ' G' => r = none ∧ G' = G ++ sX7 ∧ μ' = kX7 μ) X) {mc ms : Nat} {post : Option Value → jM → jG → Prop} (hm : 111 ≤ mc ∧ 10720 ≤ ms) (K : jCl (G ++ sX11) (kX11 μ) → J l mX11_init (jZA 8 mc ms 1 post X) (G ++ sX11) 111 10720 117 [.ref 0, .ref 91] [] (kX11 μ)) : J l mX11_init (jZA 8 mc ms 1 post X) G 0 0 0 [.ref 0, .null] [] μ := by
  refine j_aload_n dX11_init_0 rfl rfl ?_
  refine j_objInit dX11_init_1 rfl ml_X11_1 im_obj co_obj ⟨(Nat.le_of_ble_eq_true rfl), (Nat.le_of_ble_eq_true rfl)⟩ rfl ?_
  refine j_aload_n dX11_init_4 rfl rfl ?_
  refine k_new (g := 1) (ci := 6) (N := 2) (k' := 1) (n' := 2) h0 c0 (jSc_r (by omega) (jSc_n (jSc_r (by omega) jSc_0))) (by omega) dX11_init_5 rfl rfl cl_X11_7 it_X6 in_X6 rfl rfl (by omega) (by omega) ?_
  have h1 := gl (s := [(11, 2)]) (m := 1) (g' := 2) h0 rfl rfl
  have c1 := cl_z (sh := (11, 2)) h0 c0
  have t1_0 := gx (s := [(11, 2)]) t0
  have t1_1 := gw (s := [(11, 2)]) (i := 0) (sh := (11, 2)) h0 rfl
  refine j_dup dX11_init_8 rfl (fun _ _ => rfl) ?_
  refine j_cNA (as := []) (rest := [.ref 1, .ref 0]) (mc := 1) (ms := 2000) dX11_init_9 rfl vw_X11_9 rfl ⟨(Nat.le_of_ble_eq_true rfl), (Nat.le_of_ble_eq_true rfl)⟩ rfl rfl (fun _ _ => (Nat.le_of_ble_eq_true rfl)) hX (fun _ _ _ _ h => h) ⟨(show 1 + 1 ≤ mc by omega), (show 2 + 2000 ≤ ms by omega)⟩ (jZg_A (by rw [h1]; omega)) (by rw [h1]; exact (jSc_r (by omega) (jSc_n (jSc_r (by omega) (jSc_r (by omega) jSc_0))))) (n_X6 h1 t1_1 c1 (by omega) hX) ?_
  rintro _ _ _ ⟨rfl, rfl, rfl⟩
  have h2 := gl (s := sX6) (m := 1) (g' := 3) h1 rfl rfl
  have c2 := kc_X6 h1 c1 (by omega)
  have t2_0 := gx (s := sX6) t1_0
  have t2_1 := gx (s := sX6) t1_1
  refine j_putFR (ci := 11) (N := 9) (f := 0) (T := TX11) dX11_init_12 rfl t2_0 rfl (by decide) fl_X11_10 rfl rfl rfl rfl ?_
  have c3 := cl_p (t := 0) (f := 0) (x := 1) c2 (by rw [h2]; omega)
  refine j_aload_n dX11_init_15 rfl rfl ?_
  refine k_new (g := 3) (ci := 4) (N := 13) (k' := 3) (n' := 2015) h2 c3 (jSc_r (by omega) (jSc_n (jSc_r (by omega) jSc_0))) (by omega) dX11_init_16 rfl rfl cl_X11_16 it_X4 in_X4 rfl rfl (by omega) (by omega) ?_
  have h4 := gl (s := [(9, 13)]) (m := 1) (g' := 4) h2 rfl rfl
  have c4 := cl_z (sh := (9, 13)) h2 c3
  have t4_0 := gx (s := [(9, 13)]) t2_0
  have t4_1 := gw (s := [(9, 13)]) (i := 0) (sh := (9, 13)) h2 rfl
  refine j_dup dX11_init_19 rfl (fun _ _ => rfl) ?_
  refine j_cNA (as := []) (rest := [.ref 3, .ref 0]) (mc := 8) (ms := 1269) dX11_init_20 rfl vw_X11_18 rfl ⟨(Nat.le_of_ble_eq_true rfl), (Nat.le_of_ble_eq_true rfl)⟩ rfl rfl (fun _ _ => (Nat.le_of_ble_eq_true rfl)) hX (fun _ _ _ _ h => h) ⟨(show 3 + 8 ≤ mc by omega), (show 2015 + 1269 ≤ ms by omega)⟩ (jZg_A (by rw [h4]; omega)) (by rw [h4]; exact (jSc_r (by omega) (jSc_n (jSc_r (by omega) (jSc_r (by omega) jSc_0))))) (n_X4 h4 t4_1 c4 (by omega) hX h7) ?_
  rintro _ _ _ ⟨rfl, rfl, rfl⟩
  have h5 := gl (s := sX4) (m := 8) (g' := 12) h4 rfl rfl
  have c5 := kc_X4 h4 c4 (by omega)
  have t5_0 := gx (s := sX4) t4_0
  have t5_1 := gx (s := sX4) t4_1
  refine j_putFR (ci := 11) (N := 9) (f := 1) (T := TX11) dX11_init_23 rfl t5_0 rfl (by decide) fl_X11_19 rfl rfl rfl rfl ?_
  have c6 := cl_p (t := 0) (f := 1) (x := 3) c5 (by rw [h5]; omega)
  refine j_aload_n dX11_init_26 rfl rfl ?_
  refine k_new (g := 12) (ci := 10) (N := 11) (k' := 12) (n' := 3295) h5 c6 (jSc_r (by omega) (jSc_n (jSc_r (by omega) jSc_0))) (by omega) dX11_init_27 rfl rfl cl_X11_23 it_X10 in_X10 rfl rfl (by omega) (by omega) ?_
  have h7 := gl (s := [(15, 11)]) (m := 1) (g' := 13) h5 rfl rfl
  have c7 := cl_z (sh := (15, 11)) h5 c6
  have t7_0 := gx (s := [(15, 11)]) t5_0
  have t7_1 := gw (s := [(15, 11)]) (i := 0) (sh := (15, 11)) h5 rfl
  refine j_dup dX11_init_30 rfl (fun _ _ => rfl) ?_
  refine j_cIA (as := []) (rest := [.ref 12, .ref 0]) (mc := 39) (ms := 395) dX11_init_31 rfl vw_X11_25 rfl ⟨(Nat.le_of_ble_eq_true rfl), (Nat.le_of_ble_eq_true rfl)⟩ rfl rfl (fun _ _ => (Nat.le_of_ble_eq_true rfl)) hX (fun _ _ _ _ h => h) ⟨(show 12 + 39 ≤ mc by omega), (show 3295 + 395 ≤ ms by omega)⟩ (jZg_A (by rw [h7]; omega)) (by rw [h7]; exact (jSc_r (by omega) (jSc_n (jSc_r (by omega) (jSc_r (by omega) jSc_0))))) (n_X10 h7 t7_1 c7 (by omega) hX) ?_
  rintro _ _ _ ⟨rfl, rfl, rfl⟩
  have h8 := gl (s := sX10) (m := 39) (g' := 52) h7 rfl rfl
  have c8 := kc_X10 h7 c7 (by omega)
  have t8_0 := gx (s := sX10) t7_0
  have t8_1 := gx (s := sX10) t7_1
  refine j_putFR (ci := 11) (N := 9) (f := 2) (T := TX11) dX11_init_34 rfl t8_0 rfl (by decide) fl_X11_26 rfl rfl rfl rfl ?_
  have c9 := cl_p (t := 0) (f := 2) (x := 12) c8 (by rw [h8]; omega)
  refine j_aload_n dX11_init_37 rfl rfl ?_
  refine k_new (g := 52) (ci := 5) (N := 1) (k' := 52) (n' := 3691) h8 c9 (jSc_r (by omega) (jSc_n (jSc_r (by omega) jSc_0))) (by omega) dX11_init_38 rfl rfl cl_X11_30 it_X5 in_X5 rfl rfl (by omega) (by omega) ?_
  have h10 := gl (s := [(10, 1)]) (m := 1) (g' := 53) h8 rfl rfl
  have c10 := cl_z (sh := (10, 1)) h8 c9
  have t10_0 := gx (s := [(10, 1)]) t8_0
  have t10_1 := gw (s := [(10, 1)]) (i := 0) (sh := (10, 1)) h8 rfl
  refine j_dup dX11_init_41 rfl (fun _ _ => rfl) ?_
  refine j_cNA (as := []) (rest := [.ref 52, .ref 0]) (mc := 1) (ms := 71) dX11_init_42 rfl vw_X11_32 rfl ⟨(Nat.le_of_ble_eq_true rfl), (Nat.le_of_ble_eq_true rfl)⟩ rfl rfl (fun _ _ => (Nat.le_of_ble_eq_true rfl)) hX (fun _ _ _ _ h => h) ⟨(show 52 + 1 ≤ mc by omega), (show 3691 + 71 ≤ ms by omega)⟩ (jZg_A (by rw [h10]; omega)) (by rw [h10]; exact (jSc_r (by omega) (jSc_n (jSc_r (by omega) (jSc_r (by omega) jSc_0))))) (n_X5 h10 t10_1 c10 (by omega) hX) ?_
  rintro _ _ _ ⟨rfl, rfl, rfl⟩
  have h11 := gl (s := sX5) (m := 1) (g' := 54) h10 rfl rfl
  have c11 := kc_X5 (t := 52) h10 c10 (by omega)
  have t11_0 := gx (s := sX5) t10_0
  have t11_1 := gx (s := sX5) t10_1
  refine j_putFR (ci := 11) (N := 9) (f := 3) (T := TX11) dX11_init_45 rfl t11_0 rfl (by decide) fl_X11_33 rfl rfl rfl rfl ?_
  have c12 := cl_p (t := 0) (f := 3) (x := 52) c11 (by rw [h11]; omega)
  refine j_aload_n dX11_init_48 rfl rfl ?_
  refine k_new (g := 54) (ci := 3) (N := 5) (k' := 54) (n' := 3767) h11 c12 (jSc_r (by omega) (jSc_n (jSc_r (by omega) jSc_0))) (by omega) dX11_init_49 rfl rfl cl_X11_37 it_X3 in_X3 rfl rfl (by omega) (by omega) ?_
  have h13 := gl (s := [(8, 5)]) (m := 1) (g' := 55) h11 rfl rfl
  have c13 := cl_z (sh := (8, 5)) h11 c12
  have t13_0 := gx (s := [(8, 5)]) t11_0
  have t13_1 := gw (s := [(8, 5)]) (i := 0) (sh := (8, 5)) h11 rfl
  refine j_dup dX11_init_52 rfl (fun _ _ => rfl) ?_
  refine j_cNA (as := []) (rest := [.ref 54, .ref 0]) (mc := 2) (ms := 3053) dX11_init_53 rfl vw_X11_39 rfl ⟨(Nat.le_of_ble_eq_true rfl), (Nat.le_of_ble_eq_true rfl)⟩ rfl rfl (fun _ _ => (Nat.le_of_ble_eq_true rfl)) hX (fun _ _ _ _ h => h) ⟨(show 54 + 2 ≤ mc by omega), (show 3767 + 3053 ≤ ms by omega)⟩ (jZg_A (by rw [h13]; omega)) (by rw [h13]; exact (jSc_r (by omega) (jSc_n (jSc_r (by omega) (jSc_r (by omega) jSc_0))))) (n_X3 h13 t13_1 c13 (by omega) hX) ?_
  rintro _ _ _ ⟨rfl, rfl, rfl⟩
  have h14 := gl (s := sX3) (m := 2) (g' := 57) h13 rfl rfl
  have c14 := kc_X3 h13 c13 (by omega)
  have t14_0 := gx (s := sX3) t13_0
  have t14_1 := gx (s := sX3) t13_1
  refine j_putFR (ci := 11) (N := 9) (f := 4) (T := TX11) dX11_init_56 rfl t14_0 rfl (by decide) fl_X11_40 rfl rfl rfl rfl ?_
  have c15 := cl_p (t := 0) (f := 4) (x := 54) c14 (by rw [h14]; omega)
  refine j_aload_n dX11_init_59 rfl rfl ?_
  refine k_new (g := 57) (ci := 1) (N := 9) (k' := 57) (n' := 6829) h14 c15 (jSc_r (by omega) (jSc_n (jSc_r (by omega) jSc_0))) (by omega) dX11_init_60 rfl rfl cl_X11_44 it_X1 in_X1 rfl rfl (by omega) (by omega) ?_
  have h16 := gl (s := [(6, 9)]) (m := 1) (g' := 58) h14 rfl rfl
  have c16 := cl_z (sh := (6, 9)) h14 c15
  have t16_0 := gx (s := [(6, 9)]) t14_0
  have t16_1 := gw (s := [(6, 9)]) (i := 0) (sh := (6, 9)) h14 rfl
  refine j_dup dX11_init_63 rfl (fun _ _ => rfl) ?_
  refine j_aload_n dX11_init_64 rfl rfl ?_
  refine j_getR (ci := 11) (N := 9) (f := 2) (T := TX11) 12 dX11_init_65 rfl t16_0 rfl (by decide) fl_X11_26 rfl rfl ?_
  refine j_aload_n dX11_init_68 rfl rfl ?_
  refine j_getR (ci := 11) (N := 9) (f := 3) (T := TX11) 52 dX11_init_69 rfl t16_0 rfl (by decide) fl_X11_33 rfl rfl ?_
  refine j_cIA (as := [.ref 12, .ref 52]) (rest := [.ref 57, .ref 0]) (mc := 5) (ms := 111) dX11_init_72 rfl vw_X11_46 rfl ⟨(Nat.le_of_ble_eq_true rfl), (Nat.le_of_ble_eq_true rfl)⟩ rfl rfl (fun _ _ => (Nat.le_of_ble_eq_true rfl)) hX (fun _ _ _ _ h => h) ⟨(show 57 + 5 ≤ mc by omega), (show 6829 + 111 ≤ ms by omega)⟩ (jZg_A (by rw [h16]; omega)) (by rw [h16]; exact (jSc_r (by omega) (jSc_n (jSc_r (by omega) (jSc_r (by omega) jSc_0))))) (n_X1 h16 t16_1 c16 (by omega) hX) ?_
  rintro _ _ _ ⟨rfl, rfl, rfl⟩
  have h17 := gl (s := sX1) (m := 5) (g' := 63) h16 rfl rfl
  have c17 := kc_X1 h16 c16 (by omega)
  have t17_0 := gx (s := sX1) t16_0
  have t17_1 := gx (s := sX1) t16_1
  refine j_putFR (ci := 11) (N := 9) (f := 5) (T := TX11) dX11_init_75 rfl t17_0 rfl (by decide) fl_X11_49 rfl rfl rfl rfl ?_
  have c18 := cl_p (t := 0) (f := 5) (x := 57) c17 (by rw [h17]; omega)
  refine j_aload_n dX11_init_78 rfl rfl ?_
  refine k_new (g := 63) (ci := 0) (N := 10) (k' := 63) (n' := 6950) h17 c18 (jSc_r (by omega) (jSc_n (jSc_r (by omega) jSc_0))) (by omega) dX11_init_79 rfl rfl cl_X11_53 it_X0 in_X0 rfl rfl (by omega) (by omega) ?_
  have h19 := gl (s := [(5, 10)]) (m := 1) (g' := 64) h17 rfl rfl
  have c19 := cl_z (sh := (5, 10)) h17 c18
  have t19_0 := gx (s := [(5, 10)]) t17_0
  have t19_1 := gw (s := [(5, 10)]) (i := 0) (sh := (5, 10)) h17 rfl
  refine j_dup dX11_init_82 rfl (fun _ _ => rfl) ?_
  refine j_aload_n dX11_init_83 rfl rfl ?_
  refine j_getR (ci := 11) (N := 9) (f := 2) (T := TX11) 12 dX11_init_84 rfl t19_0 rfl (by decide) fl_X11_26 rfl rfl ?_
  refine j_cIA (as := [.ref 12]) (rest := [.ref 63, .ref 0]) (mc := 6) (ms := 144) dX11_init_87 rfl vw_X11_55 rfl ⟨(Nat.le_of_ble_eq_true rfl), (Nat.le_of_ble_eq_true rfl)⟩ rfl rfl (fun _ _ => (Nat.le_of_ble_eq_true rfl)) hX (fun _ _ _ _ h => h) ⟨(show 63 + 6 ≤ mc by omega), (show 6950 + 144 ≤ ms by omega)⟩ (jZg_A (by rw [h19]; omega)) (by rw [h19]; exact (jSc_r (by omega) (jSc_n (jSc_r (by omega) (jSc_r (by omega) jSc_0))))) (n_X0 h19 t19_1 c19 (by omega) hX) ?_
  rintro _ _ _ ⟨rfl, rfl, rfl⟩
  have h20 := gl (s := sX0) (m := 6) (g' := 70) h19 rfl rfl
  have c20 := kc_X0 h19 c19 (by omega)
  have t20_0 := gx (s := sX0) t19_0
  have t20_1 := gx (s := sX0) t19_1
  refine j_putFR (ci := 11) (N := 9) (f := 6) (T := TX11) dX11_init_90 rfl t20_0 rfl (by decide) fl_X11_58 rfl rfl rfl rfl ?_
  have c21 := cl_p (t := 0) (f := 6) (x := 63) c20 (by rw [h20]; omega)
  refine j_aload_n dX11_init_93 rfl rfl ?_
  refine k_new (g := 70) (ci := 8) (N := 20) (k' := 70) (n' := 7114) h20 c21 (jSc_r (by omega) (jSc_n (jSc_r (by omega) jSc_0))) (by omega) dX11_init_94 rfl rfl cl_X11_62 it_X8 in_X8 rfl rfl (by omega) (by omega) ?_
  have h22 := gl (s := [(13, 20)]) (m := 1) (g' := 71) h20 rfl rfl
  have c22 := cl_z (sh := (13, 20)) h20 c21
  have t22_0 := gx (s := [(13, 20)]) t20_0
  have t22_1 := gw (s := [(13, 20)]) (i := 0) (sh := (13, 20)) h20 rfl
  refine j_dup dX11_init_97 rfl (fun _ _ => rfl) ?_
  refine j_cNA (as := []) (rest := [.ref 70, .ref 0]) (mc := 20) (ms := 1793) dX11_init_98 rfl vw_X11_64 rfl ⟨(Nat.le_of_ble_eq_true rfl), (Nat.le_of_ble_eq_true rfl)⟩ rfl rfl (fun _ _ => (Nat.le_of_ble_eq_true rfl)) hX (fun _ _ _ _ h => h) ⟨(show 70 + 20 ≤ mc by omega), (show 7114 + 1793 ≤ ms by omega)⟩ (jZg_A (by rw [h22]; omega)) (by rw [h22]; exact (jSc_r (by omega) (jSc_n (jSc_r (by omega) (jSc_r (by omega) jSc_0))))) (n_X8 h22 t22_1 c22 (by omega) hX) ?_
  rintro _ _ _ ⟨rfl, rfl, rfl⟩
  have h23 := gl (s := sX8) (m := 20) (g' := 91) h22 rfl rfl
  have c23 := kc_X8 (t := 70) h22 c22 (by omega)
  have t23_0 := gx (s := sX8) t22_0
  have t23_1 := gx (s := sX8) t22_1
  refine j_putR (ci := 11) (N := 9) (f := 7) (T := TX11) dX11_init_101 rfl t23_0 rfl (by decide) fl_X11_65 rfl rfl ?_
  have c24 := cl_p (t := 0) (f := 7) (x := 70) c23 (by rw [h23]; omega)
  refine j_aload_n dX11_init_104 rfl rfl ?_
  refine j_iconst (-1) dX11_init_105 rfl (by decide) ?_
  refine j_putI (ci := 11) (N := 9) (f := 8) (T := TX11) dX11_init_106 rfl t23_0 rfl (by decide) fl_X11_69 rfl rfl ?_
  have c25 := cl_i (t := 0) (f := 8) (x := (-1)) c24
  refine k_new (g := 91) (ci := 8) (N := 20) (k' := 91) (n' := 8927) h23 c25 (jSc_r (by omega) (jSc_n jSc_0)) (by omega) dX11_init_109 rfl rfl cl_X11_62 it_X8 in_X8 rfl rfl (by omega) (by omega) ?_
  have h26 := gl (s := [(13, 20)]) (m := 1) (g' := 92) h23 rfl rfl
  have c26 := cl_z (sh := (13, 20)) h23 c25
  have t26_0 := gx (s := [(13, 20)]) t23_0
  have t26_1 := gw (s := [(13, 20)]) (i := 0) (sh := (13, 20)) h23 rfl
  refine j_dup dX11_init_112 rfl (fun _ _ => rfl) ?_
  refine j_cNA (as := []) (rest := [.ref 91]) (mc := 20) (ms := 1793) dX11_init_113 rfl vw_X11_64 rfl ⟨(Nat.le_of_ble_eq_true rfl), (Nat.le_of_ble_eq_true rfl)⟩ rfl rfl (fun _ _ => (Nat.le_of_ble_eq_true rfl)) hX (fun _ _ _ _ h => h) ⟨(show 91 + 20 ≤ mc by omega), (show 8927 + 1793 ≤ ms by omega)⟩ (jZg_A (by rw [h26]; omega)) (by rw [h26]; exact (jSc_r (by omega) (jSc_n (jSc_r (by omega) jSc_0)))) (n_X8 h26 t26_1 c26 (by omega) hX) ?_
  rintro _ _ _ ⟨rfl, rfl, rfl⟩
  have h27 := gl (s := sX8) (m := 20) (g' := 112) h26 rfl rfl
  have c27 := kc_X8 (t := 91) h26 c26 (by omega)
  have t27_0 := gx (s := sX8) t26_0
  have t27_1 := gx (s := sX8) t26_1
  refine j_astore_n (ls' := [.ref 0, .ref 91]) dX11_init_116 rfl rfl (Nat.le_of_ble_eq_true rfl) rfl ?_
  have e : G ++ sX11 = G ++ [(11, 2)] ++ sX6 ++ [(9, 13)] ++ sX4 ++ [(15, 11)] ++ sX10 ++ [(10, 1)] ++ sX5 ++ [(8, 5)] ++ sX3 ++ [(6, 9)] ++ sX1 ++ [(5, 10)] ++ sX0 ++ [(13, 20)] ++ sX8 ++ [(13, 20)] ++ sX8 := by first | (simp only [List.append_assoc, List.cons_append, List.nil_append]; rfl) | rfl
  rw [e] at K
  exact K c27
def kX12 (μ : jM) : jM := (wP (z0 (wP (z0 (wP (z0 (wP (z0 (wP (z0 (wP (z0 (wP (z0 (wP (z0 (wP (z0 (wP (z0 (wP (z0 (wP (z0 (wP (z0 (wP (z0 (wP (z0 (wP (z0 (wP (z0 (wP (z0 (wP (z0 (wP (z0 (wP (z0 (wP (z0 (wP (z0 (wP (z0 (wP (z0 (wP (z0 (wP (z0 (wP (z0 (wP (z0 (wP (z0 (wP (z0 (wP (z0 (wP (z0 (wP (z0 (wP (z0 (wP (z0 (wP (z0 (wP (z0 (wP (z0 (wP (z0 (wP (z0 (wP (z0 (wP (z0 (wP (z0 (wP (z0 (wP (z0 (wP (z0 (wI (wP (z0 (wP (z0 (wP (z0 (wP (z0 (wP (z0 (wP (z0 (wP (z0 μ 113) 112 1 (some 113)) 114) 112 3 (some 114)) 115) 112 5 (some 115)) 116) 112 6 (some 116)) 117) 112 7 (some 117)) 118) 112 8 (some 118)) 119) 112 9 (some 119)) 112 17 (-1)) 120) 112 21 (some 120)) 121) 112 22 (some 121)) 122) 112 23 (some 122)) 123) 112 24 (some 123)) 124) 112 25 (some 124)) 125) 112 26 (some 125)) 126) 112 27 (some 126)) 127) 112 28 (some 127)) 128) 112 29 (some 128)) 129) 112 30 (some 129)) 130) 112 31 (some 130)) 131) 112 32 (some 131)) 132) 112 33 (some 132)) 133) 112 34 (some 133)) 134) 112 35 (some 134)) 135) 112 36 (some 135)) 136) 112 37 (some 136)) 137) 112 38 (some 137)) 138) 112 39 (some 138)) 139) 112 40 (some 139)) 140) 112 41 (some 140)) 141) 112 43 (some 141)) 142) 112 44 (some 142)) 143) 112 45 (some 143)) 144) 112 46 (some 144)) 145) 112 47 (some 145)) 146) 112 49 (some 146)) 147) 112 50 (some 147)) 148) 112 51 (some 148)) 149) 112 53 (some 149)) 150) 112 54 (some 150)) 151) 112 56 (some 151)) 152) 112 57 (some 152)) 153) 112 61 (some 153)) 154) 112 62 (some 154)) 155) 112 63 (some 155)) 156) 112 64 (some 156)) 157) 112 67 (some 157)) 158) 112 70 (some 158)) 159) 112 72 (some 159)) 160) 112 73 (some 160)) 161) 112 74 (some 161)) 162) 112 75 (some 162)) 163) 112 76 (some 163)) 164) 112 77 (some 164)) 165) 112 78 (some 165)) 166) 112 79 (some 166))
def sX12 : jG := [(1, 2000), (1, 2000), (0, 403), (0, 403), (0, 403), (3, 403), (3, 23), (3, 15), (0, 15), (0, 2), (0, 2), (0, 24), (0, 24), (0, 24), (2, 24), (0, 2), (0, 2), (0, 14), (0, 14), (0, 14), (0, 14), (0, 14), (0, 2), (0, 2), (0, 2), (0, 2), (0, 6), (0, 6), (2, 260), (0, 260), (0, 260), (0, 260), (0, 260), (0, 840), (0, 840), (0, 64), (0, 9), (0, 400), (0, 68), (0, 68), (0, 8), (0, 12), (0, 12), (0, 8), (0, 2720), (0, 32), (0, 20), (0, 20), (2, 20), (2, 372), (0, 12), (0, 12), (2, 3), (0, 204)]
set_option maxHeartbeats 16000000 in
theorem n_X12 {l : Launch} {G : jG} {μ : jM} {X : jEX} (h0 : G.length = 113) (t0 : G[112]? = some (17, 80)) (c0 : jCl G μ) (ht : 112 < 113) (hX : jXs X) {mc ms : Nat} {post : Option Value → jM → jG → Prop} (hm : 54 ≤ mc ∧ 12903 ≤ ms) (K : jCl (G ++ sX12) (kX12 μ) → J l mX12_init (jZA 8 mc ms 113 post X) (G ++ sX12) 54 12903 449 [.ref 112] [] (kX12 μ)) : J l mX12_init (jZA 8 mc ms 113 post X) G 0 0 0 [.ref 112] [] μ := by
  refine j_aload_n dX12_init_0 rfl rfl ?_
  refine j_objInit dX12_init_1 rfl ml_X12_7 im_obj co_obj ⟨(Nat.le_of_ble_eq_true rfl), (Nat.le_of_ble_eq_true rfl)⟩ rfl ?_
  refine j_aload_n dX12_init_4 rfl rfl ?_
  refine j_sipush 2000 dX12_init_5 rfl (by decide) ?_
  refine k_arr (g := 113) (t := 112) (f := 1) (ci := 12) (NF := 80) (T := TX12) (kd := 1) (N := 2000) (k' := 1) (n' := 2000) h0 c0 (jSc_r (by omega) jSc_0) (by omega) dX12_init_8 dX12_init_10 rfl rfl (Or.inr (Or.inl ⟨rfl, rfl⟩)) ac_byte (by decide) rfl (by decide) rfl rfl (by omega) (by omega) t0 rfl (by decide) fl_X12_13 rfl rfl rfl rfl ?_
  have h1 := gl (s := [(1, 2000)]) (m := 1) (g' := 114) h0 rfl rfl
  have c1 := cl_arr (sh := (1, 2000)) (f := 1) h0 c0 (show 112 < 113 by omega)
  have t1_0 := gx (s := [(1, 2000)]) t0
  refine j_aload_n dX12_init_13 rfl rfl ?_
  refine j_sipush 2000 dX12_init_14 rfl (by decide) ?_
  refine k_arr (g := 114) (t := 112) (f := 3) (ci := 12) (NF := 80) (T := TX12) (kd := 1) (N := 2000) (k' := 2) (n' := 4000) h1 c1 (jSc_r (by omega) jSc_0) (by omega) dX12_init_17 dX12_init_19 rfl rfl (Or.inr (Or.inl ⟨rfl, rfl⟩)) ac_byte (by decide) rfl (by decide) rfl rfl (by omega) (by omega) t1_0 rfl (by decide) fl_X12_17 rfl rfl rfl rfl ?_
  have h2 := gl (s := [(1, 2000)]) (m := 1) (g' := 115) h1 rfl rfl
  have c2 := cl_arr (sh := (1, 2000)) (f := 3) h1 c1 (show 112 < 114 by omega)
  have t2_0 := gx (s := [(1, 2000)]) t1_0
  refine j_aload_n dX12_init_22 rfl rfl ?_
  refine j_sipush 403 dX12_init_23 rfl (by decide) ?_
  refine k_arr (g := 115) (t := 112) (f := 5) (ci := 12) (NF := 80) (T := TX12) (kd := 0) (N := 403) (k' := 3) (n' := 4403) h2 c2 (jSc_r (by omega) jSc_0) (by omega) dX12_init_26 dX12_init_28 rfl rfl (Or.inl ⟨rfl, rfl⟩) ac_int (by decide) rfl (by decide) rfl rfl (by omega) (by omega) t2_0 rfl (by decide) fl_X12_20 rfl rfl rfl rfl ?_
  have h3 := gl (s := [(0, 403)]) (m := 1) (g' := 116) h2 rfl rfl
  have c3 := cl_arr (sh := (0, 403)) (f := 5) h2 c2 (show 112 < 115 by omega)
  have t3_0 := gx (s := [(0, 403)]) t2_0
  refine j_aload_n dX12_init_31 rfl rfl ?_
  refine j_sipush 403 dX12_init_32 rfl (by decide) ?_
  refine k_arr (g := 116) (t := 112) (f := 6) (ci := 12) (NF := 80) (T := TX12) (kd := 0) (N := 403) (k' := 4) (n' := 4806) h3 c3 (jSc_r (by omega) jSc_0) (by omega) dX12_init_35 dX12_init_37 rfl rfl (Or.inl ⟨rfl, rfl⟩) ac_int (by decide) rfl (by decide) rfl rfl (by omega) (by omega) t3_0 rfl (by decide) fl_X12_24 rfl rfl rfl rfl ?_
  have h4 := gl (s := [(0, 403)]) (m := 1) (g' := 117) h3 rfl rfl
  have c4 := cl_arr (sh := (0, 403)) (f := 6) h3 c3 (show 112 < 116 by omega)
  have t4_0 := gx (s := [(0, 403)]) t3_0
  refine j_aload_n dX12_init_40 rfl rfl ?_
  refine j_sipush 403 dX12_init_41 rfl (by decide) ?_
  refine k_arr (g := 117) (t := 112) (f := 7) (ci := 12) (NF := 80) (T := TX12) (kd := 0) (N := 403) (k' := 5) (n' := 5209) h4 c4 (jSc_r (by omega) jSc_0) (by omega) dX12_init_44 dX12_init_46 rfl rfl (Or.inl ⟨rfl, rfl⟩) ac_int (by decide) rfl (by decide) rfl rfl (by omega) (by omega) t4_0 rfl (by decide) fl_X12_27 rfl rfl rfl rfl ?_
  have h5 := gl (s := [(0, 403)]) (m := 1) (g' := 118) h4 rfl rfl
  have c5 := cl_arr (sh := (0, 403)) (f := 7) h4 c4 (show 112 < 117 by omega)
  have t5_0 := gx (s := [(0, 403)]) t4_0
  refine j_aload_n dX12_init_49 rfl rfl ?_
  refine j_sipush 403 dX12_init_50 rfl (by decide) ?_
  refine k_arr (g := 118) (t := 112) (f := 8) (ci := 12) (NF := 80) (T := TX12) (kd := 3) (N := 403) (k' := 6) (n' := 5612) h5 c5 (jSc_r (by omega) jSc_0) (by omega) dX12_init_53 dX12_init_55 rfl rfl (Or.inr (Or.inr (Or.inr ⟨rfl, rfl⟩))) ac_long (by decide) rfl (by decide) rfl rfl (by omega) (by omega) t5_0 rfl (by decide) fl_X12_30 rfl rfl rfl rfl ?_
  have h6 := gl (s := [(3, 403)]) (m := 1) (g' := 119) h5 rfl rfl
  have c6 := cl_arr (sh := (3, 403)) (f := 8) h5 c5 (show 112 < 118 by omega)
  have t6_0 := gx (s := [(3, 403)]) t5_0
  refine j_aload_n dX12_init_58 rfl rfl ?_
  refine j_bipush 23 dX12_init_59 rfl (by decide) ?_
  refine k_arr (g := 119) (t := 112) (f := 9) (ci := 12) (NF := 80) (T := TX12) (kd := 3) (N := 23) (k' := 7) (n' := 5635) h6 c6 (jSc_r (by omega) jSc_0) (by omega) dX12_init_61 dX12_init_63 rfl rfl (Or.inr (Or.inr (Or.inr ⟨rfl, rfl⟩))) ac_long (by decide) rfl (by decide) rfl rfl (by omega) (by omega) t6_0 rfl (by decide) fl_X12_34 rfl rfl rfl rfl ?_
  have h7 := gl (s := [(3, 23)]) (m := 1) (g' := 120) h6 rfl rfl
  have c7 := cl_arr (sh := (3, 23)) (f := 9) h6 c6 (show 112 < 119 by omega)
  have t7_0 := gx (s := [(3, 23)]) t6_0
  refine j_aload_n dX12_init_66 rfl rfl ?_
  refine j_iconst (-1) dX12_init_67 rfl (by decide) ?_
  refine j_putI (ci := 12) (N := 80) (f := 17) (T := TX12) dX12_init_68 rfl t7_0 rfl (by decide) fl_X12_37 rfl rfl ?_
  have c8 := cl_i (t := 112) (f := 17) (x := (-1)) c7
  refine j_aload_n dX12_init_71 rfl rfl ?_
  refine j_bipush 15 dX12_init_72 rfl (by decide) ?_
  refine k_arr (g := 120) (t := 112) (f := 21) (ci := 12) (NF := 80) (T := TX12) (kd := 3) (N := 15) (k' := 8) (n' := 5650) h7 c8 (jSc_r (by omega) jSc_0) (by omega) dX12_init_74 dX12_init_76 rfl rfl (Or.inr (Or.inr (Or.inr ⟨rfl, rfl⟩))) ac_long (by decide) rfl (by decide) rfl rfl (by omega) (by omega) t7_0 rfl (by decide) fl_X12_40 rfl rfl rfl rfl ?_
  have h9 := gl (s := [(3, 15)]) (m := 1) (g' := 121) h7 rfl rfl
  have c9 := cl_arr (sh := (3, 15)) (f := 21) h7 c8 (show 112 < 120 by omega)
  have t9_0 := gx (s := [(3, 15)]) t7_0
  refine j_aload_n dX12_init_79 rfl rfl ?_
  refine j_bipush 15 dX12_init_80 rfl (by decide) ?_
  refine k_arr (g := 121) (t := 112) (f := 22) (ci := 12) (NF := 80) (T := TX12) (kd := 0) (N := 15) (k' := 9) (n' := 5665) h9 c9 (jSc_r (by omega) jSc_0) (by omega) dX12_init_82 dX12_init_84 rfl rfl (Or.inl ⟨rfl, rfl⟩) ac_int (by decide) rfl (by decide) rfl rfl (by omega) (by omega) t9_0 rfl (by decide) fl_X12_43 rfl rfl rfl rfl ?_
  have h10 := gl (s := [(0, 15)]) (m := 1) (g' := 122) h9 rfl rfl
  have c10 := cl_arr (sh := (0, 15)) (f := 22) h9 c9 (show 112 < 121 by omega)
  have t10_0 := gx (s := [(0, 15)]) t9_0
  refine j_aload_n dX12_init_87 rfl rfl ?_
  refine j_iconst 2 dX12_init_88 rfl (by decide) ?_
  refine k_arr (g := 122) (t := 112) (f := 23) (ci := 12) (NF := 80) (T := TX12) (kd := 0) (N := 2) (k' := 10) (n' := 5667) h10 c10 (jSc_r (by omega) jSc_0) (by omega) dX12_init_89 dX12_init_91 rfl rfl (Or.inl ⟨rfl, rfl⟩) ac_int (by decide) rfl (by decide) rfl rfl (by omega) (by omega) t10_0 rfl (by decide) fl_X12_46 rfl rfl rfl rfl ?_
  have h11 := gl (s := [(0, 2)]) (m := 1) (g' := 123) h10 rfl rfl
  have c11 := cl_arr (sh := (0, 2)) (f := 23) h10 c10 (show 112 < 122 by omega)
  have t11_0 := gx (s := [(0, 2)]) t10_0
  refine j_aload_n dX12_init_94 rfl rfl ?_
  refine j_iconst 2 dX12_init_95 rfl (by decide) ?_
  refine k_arr (g := 123) (t := 112) (f := 24) (ci := 12) (NF := 80) (T := TX12) (kd := 0) (N := 2) (k' := 11) (n' := 5669) h11 c11 (jSc_r (by omega) jSc_0) (by omega) dX12_init_96 dX12_init_98 rfl rfl (Or.inl ⟨rfl, rfl⟩) ac_int (by decide) rfl (by decide) rfl rfl (by omega) (by omega) t11_0 rfl (by decide) fl_X12_49 rfl rfl rfl rfl ?_
  have h12 := gl (s := [(0, 2)]) (m := 1) (g' := 124) h11 rfl rfl
  have c12 := cl_arr (sh := (0, 2)) (f := 24) h11 c11 (show 112 < 123 by omega)
  have t12_0 := gx (s := [(0, 2)]) t11_0
  refine j_aload_n dX12_init_101 rfl rfl ?_
  refine j_bipush 24 dX12_init_102 rfl (by decide) ?_
  refine k_arr (g := 124) (t := 112) (f := 25) (ci := 12) (NF := 80) (T := TX12) (kd := 0) (N := 24) (k' := 12) (n' := 5693) h12 c12 (jSc_r (by omega) jSc_0) (by omega) dX12_init_104 dX12_init_106 rfl rfl (Or.inl ⟨rfl, rfl⟩) ac_int (by decide) rfl (by decide) rfl rfl (by omega) (by omega) t12_0 rfl (by decide) fl_X12_52 rfl rfl rfl rfl ?_
  have h13 := gl (s := [(0, 24)]) (m := 1) (g' := 125) h12 rfl rfl
  have c13 := cl_arr (sh := (0, 24)) (f := 25) h12 c12 (show 112 < 124 by omega)
  have t13_0 := gx (s := [(0, 24)]) t12_0
  refine j_aload_n dX12_init_109 rfl rfl ?_
  refine j_bipush 24 dX12_init_110 rfl (by decide) ?_
  refine k_arr (g := 125) (t := 112) (f := 26) (ci := 12) (NF := 80) (T := TX12) (kd := 0) (N := 24) (k' := 13) (n' := 5717) h13 c13 (jSc_r (by omega) jSc_0) (by omega) dX12_init_112 dX12_init_114 rfl rfl (Or.inl ⟨rfl, rfl⟩) ac_int (by decide) rfl (by decide) rfl rfl (by omega) (by omega) t13_0 rfl (by decide) fl_X12_55 rfl rfl rfl rfl ?_
  have h14 := gl (s := [(0, 24)]) (m := 1) (g' := 126) h13 rfl rfl
  have c14 := cl_arr (sh := (0, 24)) (f := 26) h13 c13 (show 112 < 125 by omega)
  have t14_0 := gx (s := [(0, 24)]) t13_0
  refine j_aload_n dX12_init_117 rfl rfl ?_
  refine j_bipush 24 dX12_init_118 rfl (by decide) ?_
  refine k_arr (g := 126) (t := 112) (f := 27) (ci := 12) (NF := 80) (T := TX12) (kd := 0) (N := 24) (k' := 14) (n' := 5741) h14 c14 (jSc_r (by omega) jSc_0) (by omega) dX12_init_120 dX12_init_122 rfl rfl (Or.inl ⟨rfl, rfl⟩) ac_int (by decide) rfl (by decide) rfl rfl (by omega) (by omega) t14_0 rfl (by decide) fl_X12_58 rfl rfl rfl rfl ?_
  have h15 := gl (s := [(0, 24)]) (m := 1) (g' := 127) h14 rfl rfl
  have c15 := cl_arr (sh := (0, 24)) (f := 27) h14 c14 (show 112 < 126 by omega)
  have t15_0 := gx (s := [(0, 24)]) t14_0
  refine j_aload_n dX12_init_125 rfl rfl ?_
  refine j_bipush 24 dX12_init_126 rfl (by decide) ?_
  refine k_arr (g := 127) (t := 112) (f := 28) (ci := 12) (NF := 80) (T := TX12) (kd := 2) (N := 24) (k' := 15) (n' := 5765) h15 c15 (jSc_r (by omega) jSc_0) (by omega) dX12_init_128 dX12_init_130 rfl rfl (Or.inr (Or.inr (Or.inl ⟨rfl, rfl⟩))) ac_boolean (by decide) rfl (by decide) rfl rfl (by omega) (by omega) t15_0 rfl (by decide) fl_X12_61 rfl rfl rfl rfl ?_
  have h16 := gl (s := [(2, 24)]) (m := 1) (g' := 128) h15 rfl rfl
  have c16 := cl_arr (sh := (2, 24)) (f := 28) h15 c15 (show 112 < 127 by omega)
  have t16_0 := gx (s := [(2, 24)]) t15_0
  refine j_aload_n dX12_init_133 rfl rfl ?_
  refine j_iconst 2 dX12_init_134 rfl (by decide) ?_
  refine k_arr (g := 128) (t := 112) (f := 29) (ci := 12) (NF := 80) (T := TX12) (kd := 0) (N := 2) (k' := 16) (n' := 5767) h16 c16 (jSc_r (by omega) jSc_0) (by omega) dX12_init_135 dX12_init_137 rfl rfl (Or.inl ⟨rfl, rfl⟩) ac_int (by decide) rfl (by decide) rfl rfl (by omega) (by omega) t16_0 rfl (by decide) fl_X12_65 rfl rfl rfl rfl ?_
  have h17 := gl (s := [(0, 2)]) (m := 1) (g' := 129) h16 rfl rfl
  have c17 := cl_arr (sh := (0, 2)) (f := 29) h16 c16 (show 112 < 128 by omega)
  have t17_0 := gx (s := [(0, 2)]) t16_0
  refine j_aload_n dX12_init_140 rfl rfl ?_
  refine j_iconst 2 dX12_init_141 rfl (by decide) ?_
  refine k_arr (g := 129) (t := 112) (f := 30) (ci := 12) (NF := 80) (T := TX12) (kd := 0) (N := 2) (k' := 17) (n' := 5769) h17 c17 (jSc_r (by omega) jSc_0) (by omega) dX12_init_142 dX12_init_144 rfl rfl (Or.inl ⟨rfl, rfl⟩) ac_int (by decide) rfl (by decide) rfl rfl (by omega) (by omega) t17_0 rfl (by decide) fl_X12_68 rfl rfl rfl rfl ?_
  have h18 := gl (s := [(0, 2)]) (m := 1) (g' := 130) h17 rfl rfl
  have c18 := cl_arr (sh := (0, 2)) (f := 30) h17 c17 (show 112 < 129 by omega)
  have t18_0 := gx (s := [(0, 2)]) t17_0
  refine j_aload_n dX12_init_147 rfl rfl ?_
  refine j_bipush 14 dX12_init_148 rfl (by decide) ?_
  refine k_arr (g := 130) (t := 112) (f := 31) (ci := 12) (NF := 80) (T := TX12) (kd := 0) (N := 14) (k' := 18) (n' := 5783) h18 c18 (jSc_r (by omega) jSc_0) (by omega) dX12_init_150 dX12_init_152 rfl rfl (Or.inl ⟨rfl, rfl⟩) ac_int (by decide) rfl (by decide) rfl rfl (by omega) (by omega) t18_0 rfl (by decide) fl_X12_71 rfl rfl rfl rfl ?_
  have h19 := gl (s := [(0, 14)]) (m := 1) (g' := 131) h18 rfl rfl
  have c19 := cl_arr (sh := (0, 14)) (f := 31) h18 c18 (show 112 < 130 by omega)
  have t19_0 := gx (s := [(0, 14)]) t18_0
  refine j_aload_n dX12_init_155 rfl rfl ?_
  refine j_bipush 14 dX12_init_156 rfl (by decide) ?_
  refine k_arr (g := 131) (t := 112) (f := 32) (ci := 12) (NF := 80) (T := TX12) (kd := 0) (N := 14) (k' := 19) (n' := 5797) h19 c19 (jSc_r (by omega) jSc_0) (by omega) dX12_init_158 dX12_init_160 rfl rfl (Or.inl ⟨rfl, rfl⟩) ac_int (by decide) rfl (by decide) rfl rfl (by omega) (by omega) t19_0 rfl (by decide) fl_X12_74 rfl rfl rfl rfl ?_
  have h20 := gl (s := [(0, 14)]) (m := 1) (g' := 132) h19 rfl rfl
  have c20 := cl_arr (sh := (0, 14)) (f := 32) h19 c19 (show 112 < 131 by omega)
  have t20_0 := gx (s := [(0, 14)]) t19_0
  refine j_aload_n dX12_init_163 rfl rfl ?_
  refine j_bipush 14 dX12_init_164 rfl (by decide) ?_
  refine k_arr (g := 132) (t := 112) (f := 33) (ci := 12) (NF := 80) (T := TX12) (kd := 0) (N := 14) (k' := 20) (n' := 5811) h20 c20 (jSc_r (by omega) jSc_0) (by omega) dX12_init_166 dX12_init_168 rfl rfl (Or.inl ⟨rfl, rfl⟩) ac_int (by decide) rfl (by decide) rfl rfl (by omega) (by omega) t20_0 rfl (by decide) fl_X12_77 rfl rfl rfl rfl ?_
  have h21 := gl (s := [(0, 14)]) (m := 1) (g' := 133) h20 rfl rfl
  have c21 := cl_arr (sh := (0, 14)) (f := 33) h20 c20 (show 112 < 132 by omega)
  have t21_0 := gx (s := [(0, 14)]) t20_0
  refine j_aload_n dX12_init_171 rfl rfl ?_
  refine j_bipush 14 dX12_init_172 rfl (by decide) ?_
  refine k_arr (g := 133) (t := 112) (f := 34) (ci := 12) (NF := 80) (T := TX12) (kd := 0) (N := 14) (k' := 21) (n' := 5825) h21 c21 (jSc_r (by omega) jSc_0) (by omega) dX12_init_174 dX12_init_176 rfl rfl (Or.inl ⟨rfl, rfl⟩) ac_int (by decide) rfl (by decide) rfl rfl (by omega) (by omega) t21_0 rfl (by decide) fl_X12_80 rfl rfl rfl rfl ?_
  have h22 := gl (s := [(0, 14)]) (m := 1) (g' := 134) h21 rfl rfl
  have c22 := cl_arr (sh := (0, 14)) (f := 34) h21 c21 (show 112 < 133 by omega)
  have t22_0 := gx (s := [(0, 14)]) t21_0
  refine j_aload_n dX12_init_179 rfl rfl ?_
  refine j_bipush 14 dX12_init_180 rfl (by decide) ?_
  refine k_arr (g := 134) (t := 112) (f := 35) (ci := 12) (NF := 80) (T := TX12) (kd := 0) (N := 14) (k' := 22) (n' := 5839) h22 c22 (jSc_r (by omega) jSc_0) (by omega) dX12_init_182 dX12_init_184 rfl rfl (Or.inl ⟨rfl, rfl⟩) ac_int (by decide) rfl (by decide) rfl rfl (by omega) (by omega) t22_0 rfl (by decide) fl_X12_83 rfl rfl rfl rfl ?_
  have h23 := gl (s := [(0, 14)]) (m := 1) (g' := 135) h22 rfl rfl
  have c23 := cl_arr (sh := (0, 14)) (f := 35) h22 c22 (show 112 < 134 by omega)
  have t23_0 := gx (s := [(0, 14)]) t22_0
  refine j_aload_n dX12_init_187 rfl rfl ?_
  refine j_iconst 2 dX12_init_188 rfl (by decide) ?_
  refine k_arr (g := 135) (t := 112) (f := 36) (ci := 12) (NF := 80) (T := TX12) (kd := 0) (N := 2) (k' := 23) (n' := 5841) h23 c23 (jSc_r (by omega) jSc_0) (by omega) dX12_init_189 dX12_init_191 rfl rfl (Or.inl ⟨rfl, rfl⟩) ac_int (by decide) rfl (by decide) rfl rfl (by omega) (by omega) t23_0 rfl (by decide) fl_X12_86 rfl rfl rfl rfl ?_
  have h24 := gl (s := [(0, 2)]) (m := 1) (g' := 136) h23 rfl rfl
  have c24 := cl_arr (sh := (0, 2)) (f := 36) h23 c23 (show 112 < 135 by omega)
  have t24_0 := gx (s := [(0, 2)]) t23_0
  refine j_aload_n dX12_init_194 rfl rfl ?_
  refine j_iconst 2 dX12_init_195 rfl (by decide) ?_
  refine k_arr (g := 136) (t := 112) (f := 37) (ci := 12) (NF := 80) (T := TX12) (kd := 0) (N := 2) (k' := 24) (n' := 5843) h24 c24 (jSc_r (by omega) jSc_0) (by omega) dX12_init_196 dX12_init_198 rfl rfl (Or.inl ⟨rfl, rfl⟩) ac_int (by decide) rfl (by decide) rfl rfl (by omega) (by omega) t24_0 rfl (by decide) fl_X12_89 rfl rfl rfl rfl ?_
  have h25 := gl (s := [(0, 2)]) (m := 1) (g' := 137) h24 rfl rfl
  have c25 := cl_arr (sh := (0, 2)) (f := 37) h24 c24 (show 112 < 136 by omega)
  have t25_0 := gx (s := [(0, 2)]) t24_0
  refine j_aload_n dX12_init_201 rfl rfl ?_
  refine j_iconst 2 dX12_init_202 rfl (by decide) ?_
  refine k_arr (g := 137) (t := 112) (f := 38) (ci := 12) (NF := 80) (T := TX12) (kd := 0) (N := 2) (k' := 25) (n' := 5845) h25 c25 (jSc_r (by omega) jSc_0) (by omega) dX12_init_203 dX12_init_205 rfl rfl (Or.inl ⟨rfl, rfl⟩) ac_int (by decide) rfl (by decide) rfl rfl (by omega) (by omega) t25_0 rfl (by decide) fl_X12_92 rfl rfl rfl rfl ?_
  have h26 := gl (s := [(0, 2)]) (m := 1) (g' := 138) h25 rfl rfl
  have c26 := cl_arr (sh := (0, 2)) (f := 38) h25 c25 (show 112 < 137 by omega)
  have t26_0 := gx (s := [(0, 2)]) t25_0
  refine j_aload_n dX12_init_208 rfl rfl ?_
  refine j_iconst 2 dX12_init_209 rfl (by decide) ?_
  refine k_arr (g := 138) (t := 112) (f := 39) (ci := 12) (NF := 80) (T := TX12) (kd := 0) (N := 2) (k' := 26) (n' := 5847) h26 c26 (jSc_r (by omega) jSc_0) (by omega) dX12_init_210 dX12_init_212 rfl rfl (Or.inl ⟨rfl, rfl⟩) ac_int (by decide) rfl (by decide) rfl rfl (by omega) (by omega) t26_0 rfl (by decide) fl_X12_95 rfl rfl rfl rfl ?_
  have h27 := gl (s := [(0, 2)]) (m := 1) (g' := 139) h26 rfl rfl
  have c27 := cl_arr (sh := (0, 2)) (f := 39) h26 c26 (show 112 < 138 by omega)
  have t27_0 := gx (s := [(0, 2)]) t26_0
  refine j_aload_n dX12_init_215 rfl rfl ?_
  refine j_bipush 6 dX12_init_216 rfl (by decide) ?_
  refine k_arr (g := 139) (t := 112) (f := 40) (ci := 12) (NF := 80) (T := TX12) (kd := 0) (N := 6) (k' := 27) (n' := 5853) h27 c27 (jSc_r (by omega) jSc_0) (by omega) dX12_init_218 dX12_init_220 rfl rfl (Or.inl ⟨rfl, rfl⟩) ac_int (by decide) rfl (by decide) rfl rfl (by omega) (by omega) t27_0 rfl (by decide) fl_X12_98 rfl rfl rfl rfl ?_
  have h28 := gl (s := [(0, 6)]) (m := 1) (g' := 140) h27 rfl rfl
  have c28 := cl_arr (sh := (0, 6)) (f := 40) h27 c27 (show 112 < 139 by omega)
  have t28_0 := gx (s := [(0, 6)]) t27_0
  refine j_aload_n dX12_init_223 rfl rfl ?_
  refine j_bipush 6 dX12_init_224 rfl (by decide) ?_
  refine k_arr (g := 140) (t := 112) (f := 41) (ci := 12) (NF := 80) (T := TX12) (kd := 0) (N := 6) (k' := 28) (n' := 5859) h28 c28 (jSc_r (by omega) jSc_0) (by omega) dX12_init_226 dX12_init_228 rfl rfl (Or.inl ⟨rfl, rfl⟩) ac_int (by decide) rfl (by decide) rfl rfl (by omega) (by omega) t28_0 rfl (by decide) fl_X12_101 rfl rfl rfl rfl ?_
  have h29 := gl (s := [(0, 6)]) (m := 1) (g' := 141) h28 rfl rfl
  have c29 := cl_arr (sh := (0, 6)) (f := 41) h28 c28 (show 112 < 140 by omega)
  have t29_0 := gx (s := [(0, 6)]) t28_0
  refine j_aload_n dX12_init_231 rfl rfl ?_
  refine j_sipush 260 dX12_init_232 rfl (by decide) ?_
  refine k_arr (g := 141) (t := 112) (f := 43) (ci := 12) (NF := 80) (T := TX12) (kd := 2) (N := 260) (k' := 29) (n' := 6119) h29 c29 (jSc_r (by omega) jSc_0) (by omega) dX12_init_235 dX12_init_237 rfl rfl (Or.inr (Or.inr (Or.inl ⟨rfl, rfl⟩))) ac_boolean (by decide) rfl (by decide) rfl rfl (by omega) (by omega) t29_0 rfl (by decide) fl_X12_104 rfl rfl rfl rfl ?_
  have h30 := gl (s := [(2, 260)]) (m := 1) (g' := 142) h29 rfl rfl
  have c30 := cl_arr (sh := (2, 260)) (f := 43) h29 c29 (show 112 < 141 by omega)
  have t30_0 := gx (s := [(2, 260)]) t29_0
  refine j_aload_n dX12_init_240 rfl rfl ?_
  refine j_sipush 260 dX12_init_241 rfl (by decide) ?_
  refine k_arr (g := 142) (t := 112) (f := 44) (ci := 12) (NF := 80) (T := TX12) (kd := 0) (N := 260) (k' := 30) (n' := 6379) h30 c30 (jSc_r (by omega) jSc_0) (by omega) dX12_init_244 dX12_init_246 rfl rfl (Or.inl ⟨rfl, rfl⟩) ac_int (by decide) rfl (by decide) rfl rfl (by omega) (by omega) t30_0 rfl (by decide) fl_X12_107 rfl rfl rfl rfl ?_
  have h31 := gl (s := [(0, 260)]) (m := 1) (g' := 143) h30 rfl rfl
  have c31 := cl_arr (sh := (0, 260)) (f := 44) h30 c30 (show 112 < 142 by omega)
  have t31_0 := gx (s := [(0, 260)]) t30_0
  refine j_aload_n dX12_init_249 rfl rfl ?_
  refine j_sipush 260 dX12_init_250 rfl (by decide) ?_
  refine k_arr (g := 143) (t := 112) (f := 45) (ci := 12) (NF := 80) (T := TX12) (kd := 0) (N := 260) (k' := 31) (n' := 6639) h31 c31 (jSc_r (by omega) jSc_0) (by omega) dX12_init_253 dX12_init_255 rfl rfl (Or.inl ⟨rfl, rfl⟩) ac_int (by decide) rfl (by decide) rfl rfl (by omega) (by omega) t31_0 rfl (by decide) fl_X12_110 rfl rfl rfl rfl ?_
  have h32 := gl (s := [(0, 260)]) (m := 1) (g' := 144) h31 rfl rfl
  have c32 := cl_arr (sh := (0, 260)) (f := 45) h31 c31 (show 112 < 143 by omega)
  have t32_0 := gx (s := [(0, 260)]) t31_0
  refine j_aload_n dX12_init_258 rfl rfl ?_
  refine j_sipush 260 dX12_init_259 rfl (by decide) ?_
  refine k_arr (g := 144) (t := 112) (f := 46) (ci := 12) (NF := 80) (T := TX12) (kd := 0) (N := 260) (k' := 32) (n' := 6899) h32 c32 (jSc_r (by omega) jSc_0) (by omega) dX12_init_262 dX12_init_264 rfl rfl (Or.inl ⟨rfl, rfl⟩) ac_int (by decide) rfl (by decide) rfl rfl (by omega) (by omega) t32_0 rfl (by decide) fl_X12_113 rfl rfl rfl rfl ?_
  have h33 := gl (s := [(0, 260)]) (m := 1) (g' := 145) h32 rfl rfl
  have c33 := cl_arr (sh := (0, 260)) (f := 46) h32 c32 (show 112 < 144 by omega)
  have t33_0 := gx (s := [(0, 260)]) t32_0
  refine j_aload_n dX12_init_267 rfl rfl ?_
  refine j_sipush 260 dX12_init_268 rfl (by decide) ?_
  refine k_arr (g := 145) (t := 112) (f := 47) (ci := 12) (NF := 80) (T := TX12) (kd := 0) (N := 260) (k' := 33) (n' := 7159) h33 c33 (jSc_r (by omega) jSc_0) (by omega) dX12_init_271 dX12_init_273 rfl rfl (Or.inl ⟨rfl, rfl⟩) ac_int (by decide) rfl (by decide) rfl rfl (by omega) (by omega) t33_0 rfl (by decide) fl_X12_116 rfl rfl rfl rfl ?_
  have h34 := gl (s := [(0, 260)]) (m := 1) (g' := 146) h33 rfl rfl
  have c34 := cl_arr (sh := (0, 260)) (f := 47) h33 c33 (show 112 < 145 by omega)
  have t34_0 := gx (s := [(0, 260)]) t33_0
  refine j_aload_n dX12_init_276 rfl rfl ?_
  refine j_sipush 840 dX12_init_277 rfl (by decide) ?_
  refine k_arr (g := 146) (t := 112) (f := 49) (ci := 12) (NF := 80) (T := TX12) (kd := 0) (N := 840) (k' := 34) (n' := 7999) h34 c34 (jSc_r (by omega) jSc_0) (by omega) dX12_init_280 dX12_init_282 rfl rfl (Or.inl ⟨rfl, rfl⟩) ac_int (by decide) rfl (by decide) rfl rfl (by omega) (by omega) t34_0 rfl (by decide) fl_X12_119 rfl rfl rfl rfl ?_
  have h35 := gl (s := [(0, 840)]) (m := 1) (g' := 147) h34 rfl rfl
  have c35 := cl_arr (sh := (0, 840)) (f := 49) h34 c34 (show 112 < 146 by omega)
  have t35_0 := gx (s := [(0, 840)]) t34_0
  refine j_aload_n dX12_init_285 rfl rfl ?_
  refine j_sipush 840 dX12_init_286 rfl (by decide) ?_
  refine k_arr (g := 147) (t := 112) (f := 50) (ci := 12) (NF := 80) (T := TX12) (kd := 0) (N := 840) (k' := 35) (n' := 8839) h35 c35 (jSc_r (by omega) jSc_0) (by omega) dX12_init_289 dX12_init_291 rfl rfl (Or.inl ⟨rfl, rfl⟩) ac_int (by decide) rfl (by decide) rfl rfl (by omega) (by omega) t35_0 rfl (by decide) fl_X12_122 rfl rfl rfl rfl ?_
  have h36 := gl (s := [(0, 840)]) (m := 1) (g' := 148) h35 rfl rfl
  have c36 := cl_arr (sh := (0, 840)) (f := 50) h35 c35 (show 112 < 147 by omega)
  have t36_0 := gx (s := [(0, 840)]) t35_0
  refine j_aload_n dX12_init_294 rfl rfl ?_
  refine j_bipush 64 dX12_init_295 rfl (by decide) ?_
  refine k_arr (g := 148) (t := 112) (f := 51) (ci := 12) (NF := 80) (T := TX12) (kd := 0) (N := 64) (k' := 36) (n' := 8903) h36 c36 (jSc_r (by omega) jSc_0) (by omega) dX12_init_297 dX12_init_299 rfl rfl (Or.inl ⟨rfl, rfl⟩) ac_int (by decide) rfl (by decide) rfl rfl (by omega) (by omega) t36_0 rfl (by decide) fl_X12_125 rfl rfl rfl rfl ?_
  have h37 := gl (s := [(0, 64)]) (m := 1) (g' := 149) h36 rfl rfl
  have c37 := cl_arr (sh := (0, 64)) (f := 51) h36 c36 (show 112 < 148 by omega)
  have t37_0 := gx (s := [(0, 64)]) t36_0
  refine j_aload_n dX12_init_302 rfl rfl ?_
  refine j_bipush 9 dX12_init_303 rfl (by decide) ?_
  refine k_arr (g := 149) (t := 112) (f := 53) (ci := 12) (NF := 80) (T := TX12) (kd := 0) (N := 9) (k' := 37) (n' := 8912) h37 c37 (jSc_r (by omega) jSc_0) (by omega) dX12_init_305 dX12_init_307 rfl rfl (Or.inl ⟨rfl, rfl⟩) ac_int (by decide) rfl (by decide) rfl rfl (by omega) (by omega) t37_0 rfl (by decide) fl_X12_128 rfl rfl rfl rfl ?_
  have h38 := gl (s := [(0, 9)]) (m := 1) (g' := 150) h37 rfl rfl
  have c38 := cl_arr (sh := (0, 9)) (f := 53) h37 c37 (show 112 < 149 by omega)
  have t38_0 := gx (s := [(0, 9)]) t37_0
  refine j_aload_n dX12_init_310 rfl rfl ?_
  refine j_sipush 400 dX12_init_311 rfl (by decide) ?_
  refine k_arr (g := 150) (t := 112) (f := 54) (ci := 12) (NF := 80) (T := TX12) (kd := 0) (N := 400) (k' := 38) (n' := 9312) h38 c38 (jSc_r (by omega) jSc_0) (by omega) dX12_init_314 dX12_init_316 rfl rfl (Or.inl ⟨rfl, rfl⟩) ac_int (by decide) rfl (by decide) rfl rfl (by omega) (by omega) t38_0 rfl (by decide) fl_X12_131 rfl rfl rfl rfl ?_
  have h39 := gl (s := [(0, 400)]) (m := 1) (g' := 151) h38 rfl rfl
  have c39 := cl_arr (sh := (0, 400)) (f := 54) h38 c38 (show 112 < 150 by omega)
  have t39_0 := gx (s := [(0, 400)]) t38_0
  refine j_aload_n dX12_init_319 rfl rfl ?_
  refine j_bipush 68 dX12_init_320 rfl (by decide) ?_
  refine k_arr (g := 151) (t := 112) (f := 56) (ci := 12) (NF := 80) (T := TX12) (kd := 0) (N := 68) (k' := 39) (n' := 9380) h39 c39 (jSc_r (by omega) jSc_0) (by omega) dX12_init_322 dX12_init_324 rfl rfl (Or.inl ⟨rfl, rfl⟩) ac_int (by decide) rfl (by decide) rfl rfl (by omega) (by omega) t39_0 rfl (by decide) fl_X12_134 rfl rfl rfl rfl ?_
  have h40 := gl (s := [(0, 68)]) (m := 1) (g' := 152) h39 rfl rfl
  have c40 := cl_arr (sh := (0, 68)) (f := 56) h39 c39 (show 112 < 151 by omega)
  have t40_0 := gx (s := [(0, 68)]) t39_0
  refine j_aload_n dX12_init_327 rfl rfl ?_
  refine j_bipush 68 dX12_init_328 rfl (by decide) ?_
  refine k_arr (g := 152) (t := 112) (f := 57) (ci := 12) (NF := 80) (T := TX12) (kd := 0) (N := 68) (k' := 40) (n' := 9448) h40 c40 (jSc_r (by omega) jSc_0) (by omega) dX12_init_330 dX12_init_332 rfl rfl (Or.inl ⟨rfl, rfl⟩) ac_int (by decide) rfl (by decide) rfl rfl (by omega) (by omega) t40_0 rfl (by decide) fl_X12_137 rfl rfl rfl rfl ?_
  have h41 := gl (s := [(0, 68)]) (m := 1) (g' := 153) h40 rfl rfl
  have c41 := cl_arr (sh := (0, 68)) (f := 57) h40 c40 (show 112 < 152 by omega)
  have t41_0 := gx (s := [(0, 68)]) t40_0
  refine j_aload_n dX12_init_335 rfl rfl ?_
  refine j_bipush 8 dX12_init_336 rfl (by decide) ?_
  refine k_arr (g := 153) (t := 112) (f := 61) (ci := 12) (NF := 80) (T := TX12) (kd := 0) (N := 8) (k' := 41) (n' := 9456) h41 c41 (jSc_r (by omega) jSc_0) (by omega) dX12_init_338 dX12_init_340 rfl rfl (Or.inl ⟨rfl, rfl⟩) ac_int (by decide) rfl (by decide) rfl rfl (by omega) (by omega) t41_0 rfl (by decide) fl_X12_140 rfl rfl rfl rfl ?_
  have h42 := gl (s := [(0, 8)]) (m := 1) (g' := 154) h41 rfl rfl
  have c42 := cl_arr (sh := (0, 8)) (f := 61) h41 c41 (show 112 < 153 by omega)
  have t42_0 := gx (s := [(0, 8)]) t41_0
  refine j_aload_n dX12_init_343 rfl rfl ?_
  refine j_bipush 12 dX12_init_344 rfl (by decide) ?_
  refine k_arr (g := 154) (t := 112) (f := 62) (ci := 12) (NF := 80) (T := TX12) (kd := 0) (N := 12) (k' := 42) (n' := 9468) h42 c42 (jSc_r (by omega) jSc_0) (by omega) dX12_init_346 dX12_init_348 rfl rfl (Or.inl ⟨rfl, rfl⟩) ac_int (by decide) rfl (by decide) rfl rfl (by omega) (by omega) t42_0 rfl (by decide) fl_X12_143 rfl rfl rfl rfl ?_
  have h43 := gl (s := [(0, 12)]) (m := 1) (g' := 155) h42 rfl rfl
  have c43 := cl_arr (sh := (0, 12)) (f := 62) h42 c42 (show 112 < 154 by omega)
  have t43_0 := gx (s := [(0, 12)]) t42_0
  refine j_aload_n dX12_init_351 rfl rfl ?_
  refine j_bipush 12 dX12_init_352 rfl (by decide) ?_
  refine k_arr (g := 155) (t := 112) (f := 63) (ci := 12) (NF := 80) (T := TX12) (kd := 0) (N := 12) (k' := 43) (n' := 9480) h43 c43 (jSc_r (by omega) jSc_0) (by omega) dX12_init_354 dX12_init_356 rfl rfl (Or.inl ⟨rfl, rfl⟩) ac_int (by decide) rfl (by decide) rfl rfl (by omega) (by omega) t43_0 rfl (by decide) fl_X12_146 rfl rfl rfl rfl ?_
  have h44 := gl (s := [(0, 12)]) (m := 1) (g' := 156) h43 rfl rfl
  have c44 := cl_arr (sh := (0, 12)) (f := 63) h43 c43 (show 112 < 155 by omega)
  have t44_0 := gx (s := [(0, 12)]) t43_0
  refine j_aload_n dX12_init_359 rfl rfl ?_
  refine j_bipush 8 dX12_init_360 rfl (by decide) ?_
  refine k_arr (g := 156) (t := 112) (f := 64) (ci := 12) (NF := 80) (T := TX12) (kd := 0) (N := 8) (k' := 44) (n' := 9488) h44 c44 (jSc_r (by omega) jSc_0) (by omega) dX12_init_362 dX12_init_364 rfl rfl (Or.inl ⟨rfl, rfl⟩) ac_int (by decide) rfl (by decide) rfl rfl (by omega) (by omega) t44_0 rfl (by decide) fl_X12_149 rfl rfl rfl rfl ?_
  have h45 := gl (s := [(0, 8)]) (m := 1) (g' := 157) h44 rfl rfl
  have c45 := cl_arr (sh := (0, 8)) (f := 64) h44 c44 (show 112 < 156 by omega)
  have t45_0 := gx (s := [(0, 8)]) t44_0
  refine j_aload_n dX12_init_367 rfl rfl ?_
  refine j_sipush 2720 dX12_init_368 rfl (by decide) ?_
  refine k_arr (g := 157) (t := 112) (f := 67) (ci := 12) (NF := 80) (T := TX12) (kd := 0) (N := 2720) (k' := 45) (n' := 12208) h45 c45 (jSc_r (by omega) jSc_0) (by omega) dX12_init_371 dX12_init_373 rfl rfl (Or.inl ⟨rfl, rfl⟩) ac_int (by decide) rfl (by decide) rfl rfl (by omega) (by omega) t45_0 rfl (by decide) fl_X12_152 rfl rfl rfl rfl ?_
  have h46 := gl (s := [(0, 2720)]) (m := 1) (g' := 158) h45 rfl rfl
  have c46 := cl_arr (sh := (0, 2720)) (f := 67) h45 c45 (show 112 < 157 by omega)
  have t46_0 := gx (s := [(0, 2720)]) t45_0
  refine j_aload_n dX12_init_376 rfl rfl ?_
  refine j_bipush 32 dX12_init_377 rfl (by decide) ?_
  refine k_arr (g := 158) (t := 112) (f := 70) (ci := 12) (NF := 80) (T := TX12) (kd := 0) (N := 32) (k' := 46) (n' := 12240) h46 c46 (jSc_r (by omega) jSc_0) (by omega) dX12_init_379 dX12_init_381 rfl rfl (Or.inl ⟨rfl, rfl⟩) ac_int (by decide) rfl (by decide) rfl rfl (by omega) (by omega) t46_0 rfl (by decide) fl_X12_155 rfl rfl rfl rfl ?_
  have h47 := gl (s := [(0, 32)]) (m := 1) (g' := 159) h46 rfl rfl
  have c47 := cl_arr (sh := (0, 32)) (f := 70) h46 c46 (show 112 < 158 by omega)
  have t47_0 := gx (s := [(0, 32)]) t46_0
  refine j_aload_n dX12_init_384 rfl rfl ?_
  refine j_bipush 20 dX12_init_385 rfl (by decide) ?_
  refine k_arr (g := 159) (t := 112) (f := 72) (ci := 12) (NF := 80) (T := TX12) (kd := 0) (N := 20) (k' := 47) (n' := 12260) h47 c47 (jSc_r (by omega) jSc_0) (by omega) dX12_init_387 dX12_init_389 rfl rfl (Or.inl ⟨rfl, rfl⟩) ac_int (by decide) rfl (by decide) rfl rfl (by omega) (by omega) t47_0 rfl (by decide) fl_X12_158 rfl rfl rfl rfl ?_
  have h48 := gl (s := [(0, 20)]) (m := 1) (g' := 160) h47 rfl rfl
  have c48 := cl_arr (sh := (0, 20)) (f := 72) h47 c47 (show 112 < 159 by omega)
  have t48_0 := gx (s := [(0, 20)]) t47_0
  refine j_aload_n dX12_init_392 rfl rfl ?_
  refine j_bipush 20 dX12_init_393 rfl (by decide) ?_
  refine k_arr (g := 160) (t := 112) (f := 73) (ci := 12) (NF := 80) (T := TX12) (kd := 0) (N := 20) (k' := 48) (n' := 12280) h48 c48 (jSc_r (by omega) jSc_0) (by omega) dX12_init_395 dX12_init_397 rfl rfl (Or.inl ⟨rfl, rfl⟩) ac_int (by decide) rfl (by decide) rfl rfl (by omega) (by omega) t48_0 rfl (by decide) fl_X12_161 rfl rfl rfl rfl ?_
  have h49 := gl (s := [(0, 20)]) (m := 1) (g' := 161) h48 rfl rfl
  have c49 := cl_arr (sh := (0, 20)) (f := 73) h48 c48 (show 112 < 160 by omega)
  have t49_0 := gx (s := [(0, 20)]) t48_0
  refine j_aload_n dX12_init_400 rfl rfl ?_
  refine j_bipush 20 dX12_init_401 rfl (by decide) ?_
  refine k_arr (g := 161) (t := 112) (f := 74) (ci := 12) (NF := 80) (T := TX12) (kd := 2) (N := 20) (k' := 49) (n' := 12300) h49 c49 (jSc_r (by omega) jSc_0) (by omega) dX12_init_403 dX12_init_405 rfl rfl (Or.inr (Or.inr (Or.inl ⟨rfl, rfl⟩))) ac_boolean (by decide) rfl (by decide) rfl rfl (by omega) (by omega) t49_0 rfl (by decide) fl_X12_164 rfl rfl rfl rfl ?_
  have h50 := gl (s := [(2, 20)]) (m := 1) (g' := 162) h49 rfl rfl
  have c50 := cl_arr (sh := (2, 20)) (f := 74) h49 c49 (show 112 < 161 by omega)
  have t50_0 := gx (s := [(2, 20)]) t49_0
  refine j_aload_n dX12_init_408 rfl rfl ?_
  refine j_sipush 372 dX12_init_409 rfl (by decide) ?_
  refine k_arr (g := 162) (t := 112) (f := 75) (ci := 12) (NF := 80) (T := TX12) (kd := 2) (N := 372) (k' := 50) (n' := 12672) h50 c50 (jSc_r (by omega) jSc_0) (by omega) dX12_init_412 dX12_init_414 rfl rfl (Or.inr (Or.inr (Or.inl ⟨rfl, rfl⟩))) ac_boolean (by decide) rfl (by decide) rfl rfl (by omega) (by omega) t50_0 rfl (by decide) fl_X12_167 rfl rfl rfl rfl ?_
  have h51 := gl (s := [(2, 372)]) (m := 1) (g' := 163) h50 rfl rfl
  have c51 := cl_arr (sh := (2, 372)) (f := 75) h50 c50 (show 112 < 162 by omega)
  have t51_0 := gx (s := [(2, 372)]) t50_0
  refine j_aload_n dX12_init_417 rfl rfl ?_
  refine j_bipush 12 dX12_init_418 rfl (by decide) ?_
  refine k_arr (g := 163) (t := 112) (f := 76) (ci := 12) (NF := 80) (T := TX12) (kd := 0) (N := 12) (k' := 51) (n' := 12684) h51 c51 (jSc_r (by omega) jSc_0) (by omega) dX12_init_420 dX12_init_422 rfl rfl (Or.inl ⟨rfl, rfl⟩) ac_int (by decide) rfl (by decide) rfl rfl (by omega) (by omega) t51_0 rfl (by decide) fl_X12_170 rfl rfl rfl rfl ?_
  have h52 := gl (s := [(0, 12)]) (m := 1) (g' := 164) h51 rfl rfl
  have c52 := cl_arr (sh := (0, 12)) (f := 76) h51 c51 (show 112 < 163 by omega)
  have t52_0 := gx (s := [(0, 12)]) t51_0
  refine j_aload_n dX12_init_425 rfl rfl ?_
  refine j_bipush 12 dX12_init_426 rfl (by decide) ?_
  refine k_arr (g := 164) (t := 112) (f := 77) (ci := 12) (NF := 80) (T := TX12) (kd := 0) (N := 12) (k' := 52) (n' := 12696) h52 c52 (jSc_r (by omega) jSc_0) (by omega) dX12_init_428 dX12_init_430 rfl rfl (Or.inl ⟨rfl, rfl⟩) ac_int (by decide) rfl (by decide) rfl rfl (by omega) (by omega) t52_0 rfl (by decide) fl_X12_173 rfl rfl rfl rfl ?_
  have h53 := gl (s := [(0, 12)]) (m := 1) (g' := 165) h52 rfl rfl
  have c53 := cl_arr (sh := (0, 12)) (f := 77) h52 c52 (show 112 < 164 by omega)
  have t53_0 := gx (s := [(0, 12)]) t52_0
  refine j_aload_n dX12_init_433 rfl rfl ?_
  refine j_iconst 3 dX12_init_434 rfl (by decide) ?_
  refine k_arr (g := 165) (t := 112) (f := 78) (ci := 12) (NF := 80) (T := TX12) (kd := 2) (N := 3) (k' := 53) (n' := 12699) h53 c53 (jSc_r (by omega) jSc_0) (by omega) dX12_init_435 dX12_init_437 rfl rfl (Or.inr (Or.inr (Or.inl ⟨rfl, rfl⟩))) ac_boolean (by decide) rfl (by decide) rfl rfl (by omega) (by omega) t53_0 rfl (by decide) fl_X12_176 rfl rfl rfl rfl ?_
  have h54 := gl (s := [(2, 3)]) (m := 1) (g' := 166) h53 rfl rfl
  have c54 := cl_arr (sh := (2, 3)) (f := 78) h53 c53 (show 112 < 165 by omega)
  have t54_0 := gx (s := [(2, 3)]) t53_0
  refine j_aload_n dX12_init_440 rfl rfl ?_
  refine j_sipush 204 dX12_init_441 rfl (by decide) ?_
  refine k_arr (g := 166) (t := 112) (f := 79) (ci := 12) (NF := 80) (T := TX12) (kd := 0) (N := 204) (k' := 54) (n' := 12903) h54 c54 (jSc_r (by omega) jSc_0) (by omega) dX12_init_444 dX12_init_446 rfl rfl (Or.inl ⟨rfl, rfl⟩) ac_int (by decide) rfl (by decide) rfl rfl (by omega) (by omega) t54_0 rfl (by decide) fl_X12_179 rfl rfl rfl rfl ?_
  have h55 := gl (s := [(0, 204)]) (m := 1) (g' := 167) h54 rfl rfl
  have c55 := cl_arr (sh := (0, 204)) (f := 79) h54 c54 (show 112 < 166 by omega)
  have t55_0 := gx (s := [(0, 204)]) t54_0
  have e : G ++ sX12 = G ++ [(1, 2000)] ++ [(1, 2000)] ++ [(0, 403)] ++ [(0, 403)] ++ [(0, 403)] ++ [(3, 403)] ++ [(3, 23)] ++ [(3, 15)] ++ [(0, 15)] ++ [(0, 2)] ++ [(0, 2)] ++ [(0, 24)] ++ [(0, 24)] ++ [(0, 24)] ++ [(2, 24)] ++ [(0, 2)] ++ [(0, 2)] ++ [(0, 14)] ++ [(0, 14)] ++ [(0, 14)] ++ [(0, 14)] ++ [(0, 14)] ++ [(0, 2)] ++ [(0, 2)] ++ [(0, 2)] ++ [(0, 2)] ++ [(0, 6)] ++ [(0, 6)] ++ [(2, 260)] ++ [(0, 260)] ++ [(0, 260)] ++ [(0, 260)] ++ [(0, 260)] ++ [(0, 840)] ++ [(0, 840)] ++ [(0, 64)] ++ [(0, 9)] ++ [(0, 400)] ++ [(0, 68)] ++ [(0, 68)] ++ [(0, 8)] ++ [(0, 12)] ++ [(0, 12)] ++ [(0, 8)] ++ [(0, 2720)] ++ [(0, 32)] ++ [(0, 20)] ++ [(0, 20)] ++ [(2, 20)] ++ [(2, 372)] ++ [(0, 12)] ++ [(0, 12)] ++ [(2, 3)] ++ [(0, 204)] := by first | (simp only [List.append_assoc, List.cons_append, List.nil_append]; rfl) | rfl
  rw [e] at K
  exact K c55
